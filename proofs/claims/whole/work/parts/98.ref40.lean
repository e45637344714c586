/-! ===== the reference: yard ===== -/
def f_rg (rs : List fRl) : Prop := ∀ q ∈ rs, f_t15 q.2.2 ∧ q.2.1 < 100
theorem f_neg_gs {x : Int32} (h : x.toInt < 0) : f_gs x := by
  intro n hn e
  rw [e, nI_toInt hn] at h
  omega
theorem f_rsE_neg {b : Bool} {v : Nat} (hv : v < 100) : (f_rsE (b, v)).toInt < 0 := by
  have h1 : ∀ v, v < 100 → (f_rsE (true, v)).toInt < 0 := by decide +kernel
  have h2 : ∀ v, v < 100 → (f_rsE (false, v)).toInt < 0 := by decide +kernel
  cases b
  · exact h2 v hv
  · exact h1 v hv
theorem f_rg_gs {rs : List fRl} (h : f_rg rs) : ∀ x ∈ f_rsL rs, f_gs x := by
  intro x hx
  unfold f_rsL at hx
  obtain ⟨q, hq, hx⟩ := List.mem_flatMap.mp hx
  obtain ⟨h1, h2⟩ := h q hq
  rcases List.mem_append.mp hx with z | z
  · obtain ⟨t, ht, rfl⟩ := List.mem_map.mp z
    rcases h1 t ht with y | y
    · rw [f_rst_test (by omega)]
      intro n hn e
      have h5 : t / 300 < 5 := by omega
      have h3 : t / 100 % 3 < 3 := by omega
      have h100 : t % 100 < 100 := by omega
      generalize t / 300 = A at *
      generalize t / 100 % 3 = B at *
      generalize t % 100 = C at *
      have := (nI_eq (by omega) hn).mp e
      omega
    · unfold f_rst
      rw [if_neg (by omega)]
      split
      · exact f_neg_gs (by decide)
      · split
        · exact f_neg_gs (by decide)
        · exact f_neg_gs (by decide)
  · rw [List.mem_singleton] at z
    rw [z]
    exact f_neg_gs (f_rsE_neg h2)
theorem f_cl_15 {T : Nat → Nat} {n p : Nat} {y : fYd} (hp : p ≤ n) (h : f_rg y.2.2) : f_rg (f_cl T n p y).2.2.2.2 := by
  obtain ⟨a1, a2, a3, a4⟩ := f_head_p (T := T) hp
  unfold f_cl
  split
  · split
    · split
      · split
        · unfold f_keep
          rename_i hw _ _
          rw [if_pos hw]
          intro q hq
          rcases List.mem_append.mp hq with z | z
          · exact h q z
          · rw [List.mem_singleton] at z
            rw [z]
            exact ⟨f_pe_15 (f_pf_15 T n 5) _ _ (fun t ht => by simp at ht), a3⟩
        · exact h
      · exact h
    · unfold f_keep
      rename_i hw
      rw [if_neg hw]
      split
      · exact h
      · exact h
  · exact h
theorem f_cls_15 {T : Nat → Nat} {n : Nat} : ∀ (k p : Nat) (y : fYd), p ≤ n → f_rg y.2.2 → f_rg (f_cls T n k p y).2.2.2.2 := by
  intro k
  induction k with
  | zero => intro p y _ h; exact h
  | succ k ih =>
    intro p y hp h
    have hc := f_cl_15 (T := T) hp h
    unfold f_cls
    split
    · split
      · exact hc
      · split
        · exact hc
        · split
          · rename_i h59
            exact ih _ _ (f_is_lt h59) hc
          · exact hc
    · exact hc
theorem f_yrd_15 {T : Nat → Nat} {n : Nat} : f_rg (f_yrd T n).2.2.2.2 := f_cls_15 10 0 (12, 2, []) (Nat.zero_le _) (fun q hq => by simp at hq)
set_option maxRecDepth 20000 in
theorem m_y_yard : f_Meets 2 (kX12_yard S_clh S_he) (f_y0 p_yard) := by
  intro G As M R hsp X hX hW
  match As, hsp with
  | [.ref 100], ⟨s, hG, hS, hR, hsp⟩ =>
    subst hG
    unfold p_yard at hsp
    have hny := hS.ny
    have eny := hR.ny
    refine f_run_ok (stop := fun q => Nat.beq q 13) hX 20 _ _ _ _ _ ?_
    refine And.intro (v9 1 (by decide)) (And.intro (fun h => ?_) (fun h => ?_))
    · have h : M.1 101 1 = 5 := h
      rw [eny] at h
      have h := (nI_eq (b := 5) (by omega) (by omega)).mp h
      rw [if_pos (by omega)] at hsp
      exact hsp M hR
    have h : ¬ M.1 101 1 = 5 := h
    rw [eny] at h
    have h : ¬ s.1.1 0 1 = 5 := fun z => h (by rw [z]; rfl)
    rw [if_neg (by omega)] at hsp
    have esg := hR.sg
    have hsg := hS.sg
    have htp := hR.tp
    have hto := hS.tp
    obtain ⟨a, ha⟩ : ∃ a, s.1.1 0 1 = a := ⟨_, rfl⟩
    obtain ⟨n, hn⟩ : ∃ n, s.1.1 0 3 = n := ⟨_, rfl⟩
    obtain ⟨T, hT⟩ : ∃ T, s.1.1 4 = T := ⟨_, rfl⟩
    have a5 : a < 5 := by omega
    rw [ha] at eny
    rw [hn] at esg hsg
    rw [hT] at htp hto
    rw [ha, hn, hT] at hsp
    obtain ⟨i1, i2⟩ := f_ix (z := 191 + nI a) (k := 191 + a) (n := 906) (nI_add 191 a) (by omega) (by omega)
    obtain ⟨j1, j2⟩ := f_ix (z := 196 + nI a) (k := 196 + a) (n := 906) (nI_add 196 a) (by omega) (by omega)
    obtain ⟨k1, k2⟩ := f_ix (z := 201 + nI a) (k := 201 + a) (n := 906) (nI_add 201 a) (by omega) (by omega)
    refine f_run_ok (stop := fun q => Nat.beq q 23) hX 20 _ _ _ _ _ ?_
    refine And.intro (v9 1 (by decide)) ?_
    show X f_GM 23 [some (.ref 100), none] [] (f_up M.1 100 4 (M.1 101 1), M.2)
    rw [eny]
    refine f_run_ok (stop := fun q => Nat.beq q 33) hX 20 _ _ _ _ _ ?_
    refine And.intro (v9 5 (by decide)) ?_
    show X f_GM 33 [some (.ref 100), none] [] (f_up (f_up M.1 100 4 (nI a)) 100 6 (M.1 101 5), M.2)
    rw [esg]
    refine f_run_ok (stop := fun q => Nat.beq q 40) hX 20 _ _ _ _ _ ?_
    refine And.intro (v9 5 (by decide)) ?_
    show X f_GM 40 [some (.ref 100), none] [] (f_up (f_up (f_up M.1 100 4 (nI a)) 100 6 (nI n)) 101 5 0, M.2)
    refine f_run_ok (stop := fun q => Nat.beq q 55) hX 20 _ _ _ _ _ ?_
    refine And.intro i1 ?_
    show X f_GM 55 [some (.ref 100), none] [] (f_up (f_up (f_up (f_up M.1 100 4 (nI a)) 100 6 (nI n)) 101 5 0) 101 (191 + nI a).toNatClampNeg 12, M.2)
    rw [i2]
    refine f_run_ok (stop := fun q => Nat.beq q 69) hX 20 _ _ _ _ _ ?_
    refine And.intro j1 ?_
    show X f_GM 69 [some (.ref 100), none] [] (f_up (f_up (f_up (f_up (f_up M.1 100 4 (nI a)) 100 6 (nI n)) 101 5 0) 101 (191 + a) 12) 101 (196 + nI a).toNatClampNeg 2, M.2)
    rw [j2]
    refine f_run_ok (stop := fun q => Nat.beq q 83) hX 20 _ _ _ _ _ ?_
    refine And.intro k1 ?_
    show X f_GM 83 [some (.ref 100), none] [] (f_up (f_up (f_up (f_up (f_up (f_up M.1 100 4 (nI a)) 100 6 (nI n)) 101 5 0) 101 (191 + a) 12) 101 (196 + a) 2) 101 (201 + nI a).toNatClampNeg 0, M.2)
    rw [k2]
    refine f_run_ok (stop := fun q => Nat.beq q 100) hX 20 _ _ _ _ _ ?_
    refine And.intro (Or.inl rfl) ?_
    show X f_GM 100 [some (.ref 100), some (.int 1)] [] (f_up (f_up (f_up (f_up (f_up (f_up (f_up (f_up (f_up M.1 100 4 (nI a)) 100 6 (nI n)) 101 5 0) 101 (191 + a) 12) 101 (196 + a) 2) 101 (201 + a) 0) 100 5 0) 100 7 0) 100 8 0, M.2)
    have e0 : f_em [101, 1004, 1005, 1006, 1007, 1008] M (f_up (f_up (f_up (f_up (f_up (f_up (f_up (f_up (f_up M.1 100 4 (nI a)) 100 6 (nI n)) 101 5 0) 101 (191 + a) 12) 101 (196 + a) 2) 101 (201 + a) 0) 100 5 0) 100 7 0) 100 8 0, M.2) := ((((((((f_em.rf.uf (k := 4) (by decide)).uf (k := 6) (by decide)).up (c := 101) (by decide)).up (c := 101) (by decide)).up (c := 101) (by decide)).up (c := 101) (by decide)).uf (k := 5) (by decide)).uf (k := 7) (by decide)).uf (k := 8) (by decide)
    have w : ∀ k, (f_up (f_up (f_up (f_up (f_up (f_up (f_up (f_up (f_up M.1 100 4 (nI a)) 100 6 (nI n)) 101 5 0) 101 (191 + a) 12) 101 (196 + a) 2) 101 (201 + a) 0) 100 5 0) 100 7 0) 100 8 0) 101 k = if k = 201 + a then 0 else if k = 196 + a then 2 else if k = 191 + a then 12 else if k = 5 then 0 else M.1 101 k := fun k => rfl
    have y0 : (f_up (f_up (f_up (f_up (f_up (f_up (f_up (f_up (f_up M.1 100 4 (nI a)) 100 6 (nI n)) 101 5 0) 101 (191 + a) 12) 101 (196 + a) 2) 101 (201 + a) 0) 100 5 0) 100 7 0) 100 8 0) 100 4 = nI a ∧ (f_up (f_up (f_up (f_up (f_up (f_up (f_up (f_up (f_up M.1 100 4 (nI a)) 100 6 (nI n)) 101 5 0) 101 (191 + a) 12) 101 (196 + a) 2) 101 (201 + a) 0) 100 5 0) 100 7 0) 100 8 0) 100 6 = nI n ∧ (f_up (f_up (f_up (f_up (f_up (f_up (f_up (f_up (f_up M.1 100 4 (nI a)) 100 6 (nI n)) 101 5 0) 101 (191 + a) 12) 101 (196 + a) 2) 101 (201 + a) 0) 100 5 0) 100 7 0) 100 8 0) 100 5 = 0 ∧ (f_up (f_up (f_up (f_up (f_up (f_up (f_up (f_up (f_up M.1 100 4 (nI a)) 100 6 (nI n)) 101 5 0) 101 (191 + a) 12) 101 (196 + a) 2) 101 (201 + a) 0) 100 5 0) 100 7 0) 100 8 0) 100 7 = 0 ∧ (f_up (f_up (f_up (f_up (f_up (f_up (f_up (f_up (f_up M.1 100 4 (nI a)) 100 6 (nI n)) 101 5 0) 101 (191 + a) 12) 101 (196 + a) 2) 101 (201 + a) 0) 100 5 0) 100 7 0) 100 8 0) 100 8 = 0 := ⟨rfl, rfl, rfl, rfl, rfl⟩
    generalize hM0 : ((f_up (f_up (f_up (f_up (f_up (f_up (f_up (f_up (f_up M.1 100 4 (nI a)) 100 6 (nI n)) 101 5 0) 101 (191 + a) 12) 101 (196 + a) 2) 101 (201 + a) 0) 100 5 0) 100 7 0) 100 8 0, M.2) : fMem) = M0 at *
    have w : ∀ k, M0.1 101 k = if k = 201 + a then 0 else if k = 196 + a then 2 else if k = 191 + a then 12 else if k = 5 then 0 else M.1 101 k := fun k => by rw [← hM0]; exact w k
    have y0 : M0.1 100 4 = nI a ∧ M0.1 100 6 = nI n ∧ M0.1 100 5 = 0 ∧ M0.1 100 7 = 0 ∧ M0.1 100 8 = 0 := by rw [← hM0]; exact y0
    have wo : ∀ k, k ≠ 5 → ¬ f_zy a k → M0.1 101 k = M.1 101 k := fun k h1 h2 => by
      rw [w k, if_neg (fun e => h2 (Or.inr (Or.inr (Or.inl e)))), if_neg (fun e => h2 (Or.inr (Or.inl e))), if_neg (fun e => h2 (Or.inl e)), if_neg h1]
    have hY0 : f_YS M0 T n 0 a false 0 := ⟨y0.1, a5, y0.2.2.1, Nat.zero_le _, y0.2.1, hsg, y0.2.2.2.1, y0.2.2.2.2, by omega, fun i hi => ⟨(wo _ (by omega) (fun z => by rcases z with z | z | z | z <;> omega)).trans (htp i (by omega)), hto i⟩⟩
    have hP0 : f_YP M0 a (12, 2, []) := ⟨⟨12, 2, by rw [w, if_neg (by omega), if_neg (by omega), if_pos rfl]; rfl, by omega, rfl, by rw [w, if_neg (by omega), if_pos rfl]; rfl, by omega, rfl⟩, by rw [w, if_pos rfl]; rfl, fun j x hx => by cases hx⟩
    have same : ∀ M1, f_yq (f_zy a) M0 M1 → ∀ k, k ≠ 5 → ¬ f_zy a k → M1.1 101 k = M.1 101 k := fun M1 hq k h1 h2 => (hq.2 k h2).trans (wo k h1 h2)
    have five : ∀ M1, f_yq (f_zy a) M0 M1 → M1.1 101 5 = nI 0 := fun M1 hq => (hq.2 5 (fun z => by rcases z with z | z | z | z <;> omega)).trans (by rw [w, if_neg (by omega), if_neg (by omega), if_neg (by omega), if_pos rfl]; rfl)
    have rest : ∀ M1 M2 (s1 : fCo), f_yq (f_zy a) M0 M1 → f_em [101] M1 M2 → f_CR 101 s1 M2 → f_RM (s1, s.2) M2 := by
      intro M1 M2 s1 hq he hc
      have et : f_em [101, 1004, 1005, 1006, 1007, 1008] M M2 := (e0.tr (hq.1.mono (by decide))).tr (he.mono (by decide))
      obtain ⟨r1, r2, r3, r4, r5⟩ := hR
      exact ⟨hc, (et.2.2.1 3 (by decide)).trans r2, fun k hk => (r3 k hk).cg (et.1 102 (by decide) (by decide)), (et.2.2.1 35 (by decide)).trans r4, fun i y hi hy => by rw [et.1 116 (by decide) (by decide)]; exact r5 i y hi hy⟩
    have nz : ∀ k, k < 191 → ¬ f_zy a k := fun k hk z => by rcases z with z | z | z | z <;> omega
    have hsn := hS.sn
    -- a yard that can't be read
    have fail : ∀ (M1 : fMem) (p1 : Nat) (w1 : Bool) (u : Option Value), f_yq (f_zy a) M0 M1 → f_YS M1 T n p1 a w1 0 → (f_yrd T n).1 = false → (f_yrd T n).2.1 = p1 → X f_GM 164 [some (.ref 100), u] [] M1 := by
      intro M1 p1 w1 u hq hY h1 h2
      rw [if_neg (by rw [h1]; decide), h2] at hsp
      have e5 : M1.1 100 5 = nI p1 := hY.2.2.1
      have e := same M1 hq
      have hcr : f_CR 101 (f_su s.1 0 3 0) M1 := by
        obtain ⟨⟨a1, a2, a3, a4, _, a6, a7, a8⟩, ⟨b1, b2, b3, b4, b5, b6, b7⟩, c0⟩ := hR.1
        have a2' : M.1 101 1 = nI (s.1.1 0 1) := a2
        refine ⟨⟨(e 0 (by omega) (nz _ (by omega))).trans a1, (e 1 (by omega) (nz _ (by omega))).trans a2, (e 7 (by omega) (nz _ (by omega))).trans a3, (e 8 (by omega) (nz _ (by omega))).trans a4, five M1 hq, (e 2 (by omega) (nz _ (by omega))).trans a6, (e 3 (by omega) (nz _ (by omega))).trans a7, (e 4 (by omega) (nz _ (by omega))).trans a8⟩, ⟨fun i hi => (e _ (by omega) (nz _ (by omega))).trans (b1 i hi), fun i hi => (e _ (by omega) (nz _ (by omega))).trans (b2 i hi), fun i hi => (e _ (by omega) (nz _ (by omega))).trans (b3 i hi), fun i hi => (e _ (by omega) (nz _ (by omega))).trans (b4 i hi), fun i hi => (e _ (by omega) (nz _ (by omega))).trans (b5 i hi), fun i hi => ?_, fun i hi => (e _ (by omega) (nz _ (by omega))).trans (b7 i hi)⟩, ?_⟩
        · have hi : i < s.1.1 0 5 := hi
          exact (e _ (by omega) (nz _ (by omega))).trans (b6 i hi)
        · rcases c0 with ⟨g, gy⟩ | ⟨a', l, m, ⟨h1, h1'⟩, h2, h3, h4, h5, h6, h7, h8, g1, g2, g3⟩
          · exact Or.inl ⟨(e 6 (by omega) (nz _ (by omega))).trans g, gy⟩
          · have hlt : a' < a := by
              rw [h2, a2', ha] at h1'
              exact (nI_ltI (by omega) (by omega)).mp h1'
            have nz2 : ∀ k, (k = 191 + a' ∨ k = 196 + a' ∨ k = 201 + a' ∨ (206 + 140 * a' ≤ k ∧ k < 346 + 140 * a')) → ¬ f_zy a k := fun k hk z => by rcases z with z | z | z | z <;> omega
            exact Or.inr ⟨a', l, m, ⟨h1, by rw [e 6 (by omega) (nz _ (by omega)), e 1 (by omega) (nz _ (by omega))]; exact h1'⟩, (e 6 (by omega) (nz _ (by omega))).trans h2, (e _ (by omega) (nz2 _ (Or.inl rfl))).trans h3, h4, h5, (e _ (by omega) (nz2 _ (Or.inr (Or.inl rfl)))).trans h6, h7, h8, (e _ (by omega) (nz2 _ (Or.inr (Or.inr (Or.inl rfl))))).trans g1, g2, fun j x hx => (e _ (by omega) (nz2 _ (Or.inr (Or.inr (Or.inr (by have hjl : j < (f_rsL s.1.2.2.2.2).length := (List.getElem?_eq_some_iff.mp hx).1; have gl := g2.1; omega)))))).trans (g3 j x hx)⟩
      refine f_run_ok (stop := fun q => false) hX 20 _ _ _ _ _ ?_
      exact f_fin (hsp M1 (rest M1 M1 _ hq f_em.rf hcr)) (congrArg (fun z => some (Value.int (-10 - z))) e5.symm) rfl
    -- a yard that is read
    have good : ∀ (M1 : fMem) (u : Option Value), f_yq (f_zy a) M0 M1 → f_YS M1 T n n a false 0 → f_YP M1 a (f_yrd T n).2.2 → (f_rsL (f_yrd T n).2.2.2.2).length ≤ n → (f_yrd T n).1 = true → X f_GM 172 [some (.ref 100), u] [] M1 := by
      intro M1 u hq hY hP hl h1
      rw [if_pos h1] at hsp
      have e := same M1 hq
      have e1 : M1.1 101 1 = nI a := (e 1 (by omega) (nz _ (by omega))).trans eny
      have e4 : M1.1 100 4 = nI a := hY.1
      refine f_run_ok (stop := fun q => Nat.beq q 182) hX 20 _ _ _ _ _ ?_
      refine And.intro (v9 1 (by decide)) (And.intro (v9 1 (by decide)) ?_)
      show X f_GM 182 [some (.ref 100), u] [] (f_up M1.1 101 1 (M1.1 101 1 + 1), M1.2)
      rw [e1, ← nI_succ]
      refine f_run_ok (stop := fun q => Nat.beq q 193) hX 20 _ _ _ _ _ ?_
      refine And.intro (v9 6 (by decide)) ?_
      show X f_GM 193 [some (.ref 100), u] [] (f_up (f_up M1.1 101 1 (nI (a + 1))) 101 6 (M1.1 100 4), M1.2)
      rw [e4]
      refine f_run_ok (stop := fun q => Nat.beq q 209) hX 20 _ _ _ _ _ ?_
      refine And.intro (v9 7 (by decide)) (And.intro (v9 8 (by decide)) ?_)
      show X f_GM 209 [some (.ref 100), u] [] (f_up (f_up (f_up (f_up M1.1 101 1 (nI (a + 1))) 101 6 (nI a)) 101 7 0) 101 8 0, M1.2)
      have w2 : ∀ k, (f_up (f_up (f_up (f_up M1.1 101 1 (nI (a + 1))) 101 6 (nI a)) 101 7 0) 101 8 0) 101 k = if k = 8 then 0 else if k = 7 then 0 else if k = 6 then nI a else if k = 1 then nI (a + 1) else M1.1 101 k := fun k => rfl
      have he : f_em [101] M1 (f_up (f_up (f_up (f_up M1.1 101 1 (nI (a + 1))) 101 6 (nI a)) 101 7 0) 101 8 0, M1.2) := (((f_em.rf.up (c := 101) (by decide)).up (c := 101) (by decide)).up (c := 101) (by decide)).up (c := 101) (by decide)
      have e44 : (f_up (f_up (f_up (f_up M1.1 101 1 (nI (a + 1))) 101 6 (nI a)) 101 7 0) 101 8 0) 100 4 = nI a := e4
      generalize hM2 : ((f_up (f_up (f_up (f_up M1.1 101 1 (nI (a + 1))) 101 6 (nI a)) 101 7 0) 101 8 0, M1.2) : fMem) = M2 at *
      have w2 : ∀ k, M2.1 101 k = if k = 8 then 0 else if k = 7 then 0 else if k = 6 then nI a else if k = 1 then nI (a + 1) else M1.1 101 k := fun k => by rw [← hM2]; exact w2 k
      have e44 : M2.1 100 4 = nI a := by rw [← hM2]; exact e44
      have eo : ∀ k, k ≠ 8 → k ≠ 7 → k ≠ 6 → k ≠ 1 → M2.1 101 k = M1.1 101 k := fun k g1 g2 g3 g4 => by rw [w2, if_neg g1, if_neg g2, if_neg g3, if_neg g4]
      have w8 : M2.1 101 8 = 0 := (w2 8).trans rfl
      have w7 : M2.1 101 7 = nI 0 := (w2 7).trans rfl
      have w6 : M2.1 101 6 = nI a := (w2 6).trans rfl
      have w1 : M2.1 101 1 = nI (a + 1) := (w2 1).trans rfl
      have eoo : ∀ k, k < 191 → k ≠ 8 → k ≠ 7 → k ≠ 6 → k ≠ 1 → k ≠ 5 → M2.1 101 k = M.1 101 k := fun k g0 g1 g2 g3 g4 g5 => (eo k g1 g2 g3 g4).trans (e k g5 (nz k g0))
      have hgs := f_rg_gs (f_yrd_15 (T := T) (n := n))
      have hcr : f_CR 101 ((f_su (f_su (f_su s.1 0 3 0) 0 2 0) 0 1 (a + 1)).1, 0, (f_yrd T n).2.2) M2 := by
        obtain ⟨⟨a1, a2, a3, a4, _, a6, a7, a8⟩, ⟨b1, b2, b3, b4, b5, b6, b7⟩, c0⟩ := hR.1
        obtain ⟨⟨l, m, l1, l2, l3, m1, m2, m3⟩, hC1, hC2⟩ := hP
        refine ⟨⟨(eoo 0 (by omega) (by omega) (by omega) (by omega) (by omega) (by omega)).trans a1, w1, w7, w8, (eo 5 (by omega) (by omega) (by omega) (by omega)).trans (five M1 hq), (eoo 2 (by omega) (by omega) (by omega) (by omega) (by omega) (by omega)).trans a6, (eoo 3 (by omega) (by omega) (by omega) (by omega) (by omega) (by omega)).trans a7, (eoo 4 (by omega) (by omega) (by omega) (by omega) (by omega) (by omega)).trans a8⟩, ⟨fun i hi => (eoo _ (by omega) (by omega) (by omega) (by omega) (by omega) (by omega)).trans (b1 i hi), fun i hi => (eoo _ (by omega) (by omega) (by omega) (by omega) (by omega) (by omega)).trans (b2 i hi), fun i hi => (eoo _ (by omega) (by omega) (by omega) (by omega) (by omega) (by omega)).trans (b3 i hi), fun i hi => (eoo _ (by omega) (by omega) (by omega) (by omega) (by omega) (by omega)).trans (b4 i hi), fun i hi => (eoo _ (by omega) (by omega) (by omega) (by omega) (by omega) (by omega)).trans (b5 i hi), fun i hi => ?_, fun i hi => (eoo _ (by omega) (by omega) (by omega) (by omega) (by omega) (by omega)).trans (b7 i hi)⟩, Or.inr ⟨a, l, m, ⟨a5, by rw [w6, w1]; exact nI_lt (by omega) (by omega)⟩, w6, (eo _ (by omega) (by omega) (by omega) (by omega)).trans l1, l2, l3, (eo _ (by omega) (by omega) (by omega) (by omega)).trans m1, m2, m3, (eo _ (by omega) (by omega) (by omega) (by omega)).trans hC1, ⟨by show (f_rsL (f_yrd T n).2.2.2.2).length ≤ 140; omega, hgs⟩, fun j x hx => (eo _ (by omega) (by omega) (by omega) (by omega)).trans (hC2 j x hx)⟩⟩
        have hi : i < s.1.1 0 5 := hi
        exact (eoo _ (by omega) (by omega) (by omega) (by omega) (by omega) (by omega)).trans (b6 i hi)
      refine f_run_ok (stop := fun q => false) hX 20 _ _ _ _ _ ?_
      exact f_fin (hsp M2 (rest M1 M2 _ hq he hcr)) (congrArg (fun z => some (Value.int z)) e44.symm) rfl
    -- the end of it
    have bad146 : ∀ (M1 : fMem) (p1 : Nat) (u : Option Value), f_yq (f_zy a) M0 M1 → f_YS M1 T n p1 a true 0 → (f_yrd T n).1 = false → (f_yrd T n).2.1 = p1 → X f_GM 146 [some (.ref 100), u] [] M1 := by
      intro M1 p1 u hq hY h1 h2
      have h7 : M1.1 100 7 = f_b true := hY.2.2.2.2.2.2.1
      refine f_run_ok (stop := fun q => Nat.beq q 164 || Nat.beq q 153) hX 20 _ _ _ _ _ ?_
      refine And.intro (fun z => ?_) (fun _ => fail M1 p1 true u hq hY h1 h2)
      have z : M1.1 100 7 = 0 := z
      rw [h7] at z
      exact absurd z (by decide)
    have at146 : ∀ (M1 : fMem) (p1 : Nat) (u : Option Value), f_yq (f_zy a) M0 M1 → f_YS M1 T n p1 a false 0 → (p1 = n → f_YP M1 a (f_yrd T n).2.2 ∧ (f_rsL (f_yrd T n).2.2.2.2).length ≤ n ∧ (f_yrd T n).1 = true) → (p1 ≠ n → (f_yrd T n).1 = false ∧ (f_yrd T n).2.1 = p1) → X f_GM 146 [some (.ref 100), u] [] M1 := by
      intro M1 p1 u hq hY h1 h2
      have h7 : M1.1 100 7 = f_b false := hY.2.2.2.2.2.2.1
      have h5 : M1.1 100 5 = nI p1 := hY.2.2.1
      have h6 : M1.1 100 6 = nI n := hY.2.2.2.2.1
      have hp := hY.2.2.2.1
      refine f_run_ok (stop := fun q => Nat.beq q 164 || Nat.beq q 172) hX 20 _ _ _ _ _ ?_
      refine And.intro (fun _ => And.intro (fun z => ?_) (fun z => ?_)) (fun z => ?_)
      · have z : M1.1 100 5 = M1.1 100 6 := z
        rw [h5, h6] at z
        have z := (nI_eq (by omega) (by omega)).mp z
        obtain ⟨g1, g2, g3⟩ := h1 z
        rw [z] at hY
        exact good M1 u hq hY g1 g2 g3
      · have z : ¬ M1.1 100 5 = M1.1 100 6 := z
        rw [h5, h6] at z
        obtain ⟨g1, g2⟩ := h2 (fun y => z (by rw [y]))
        exact fail M1 p1 false u hq hY g1 g2
      · have z : ¬ M1.1 100 7 = 0 := z
        rw [h7] at z
        exact absurd (show (f_b false : Int32) = 0 by decide) z
    have loop : ∀ (k cnt p : Nat) (y : fYd) (M1 : fMem), k + cnt = 10 → 1 ≤ cnt → p ≤ n → f_yq (f_zy a) M0 M1 → f_YS M1 T n (f_cl T n p y).2.1 a (!(f_cl T n p y).1) 0 → ((f_cl T n p y).1 = true → f_YP M1 a (f_cl T n p y).2.2 ∧ (f_rsL (f_cl T n p y).2.2.2.2).length ≤ (f_cl T n p y).2.1) → f_yrd T n = f_cls T n (k + 1) p y → X f_GM 104 [some (.ref 100), some (.int (nI cnt))] [] M1 := by
      intro k
      induction k with
      | zero =>
        intro cnt p y M1 hk hc hp hq hY hv hyr
        have hun : f_cls T n (0 + 1) p y = if (f_cl T n p y).1 = true then (if n ≤ (f_cl T n p y).2.1 then (true, (f_cl T n p y).2) else if 0 = 0 then (false, (f_cl T n p y).2) else if f_is T n (f_cl T n p y).2.1 59 = true then f_cls T n 0 ((f_cl T n p y).2.1 + 1) (f_cl T n p y).2.2 else (false, (f_cl T n p y).2)) else (false, (f_cl T n p y).2) := rfl
        rw [hun] at hyr
        generalize f_cl T n p y = r at *
        obtain ⟨ok, p1, y'⟩ := r
        have hY : f_YS M1 T n p1 a (!ok) 0 := hY
        have h7 : M1.1 100 7 = f_b (!ok) := hY.2.2.2.2.2.2.1
        have hp1 := hY.2.2.2.1
        refine f_run_ok (stop := fun q => Nat.beq q 146) hX 20 _ _ _ _ _ ?_
        refine And.intro (fun z => And.intro (fun _ => ?_) (fun z2 => absurd (nI_le (a := 10) (b := cnt) (by omega) (by omega)) z2)) (fun z => ?_)
        · have z : M1.1 100 7 = 0 := z
          rw [h7] at z
          have hok : ok = true := by simpa using f_b0.mp z
          subst hok
          obtain ⟨v1, v2⟩ := hv rfl
          rw [if_pos rfl] at hyr
          refine at146 M1 p1 _ hq hY (fun e => ?_) (fun e => ?_)
          · rw [if_pos (show n ≤ p1 by omega)] at hyr
            rw [hyr]
            exact ⟨v1, by rw [← e]; exact v2, rfl⟩
          · rw [if_neg (show ¬ n ≤ p1 by omega), if_pos rfl] at hyr
            rw [hyr]
            exact ⟨rfl, rfl⟩
        · have z : ¬ M1.1 100 7 = 0 := z
          rw [h7] at z
          have hok : ok = false := by simpa using f_b_nt z
          subst hok
          rw [if_neg (show ¬ ((false, p1, y') : Bool × Nat × fYd).1 = true from Bool.false_ne_true)] at hyr
          exact bad146 M1 p1 _ hq hY (by rw [hyr]) (by rw [hyr])
      | succ k ih =>
        intro cnt p y M1 hk hc hp hq hY hv hyr
        have hun : f_cls T n (k + 1 + 1) p y = if (f_cl T n p y).1 = true then (if n ≤ (f_cl T n p y).2.1 then (true, (f_cl T n p y).2) else if k + 1 = 0 then (false, (f_cl T n p y).2) else if f_is T n (f_cl T n p y).2.1 59 = true then f_cls T n (k + 1) ((f_cl T n p y).2.1 + 1) (f_cl T n p y).2.2 else (false, (f_cl T n p y).2)) else (false, (f_cl T n p y).2) := rfl
        rw [hun] at hyr
        generalize f_cl T n p y = r at *
        obtain ⟨ok, p1, y'⟩ := r
        have hY : f_YS M1 T n p1 a (!ok) 0 := hY
        have h7 : M1.1 100 7 = f_b (!ok) := hY.2.2.2.2.2.2.1
        have h5 : M1.1 100 5 = nI p1 := hY.2.2.1
        have hp1 := hY.2.2.2.1
        refine f_run_ok (stop := fun q => Nat.beq q 146 || Nat.beq q 136) hX 40 _ _ _ _ _ ?_
        refine And.intro (fun z => And.intro (fun z2 => ?_) (fun _ => ?_)) (fun z => ?_)
        · have := (nI_leI (a := 10) (b := cnt) (by omega) (by omega)).mp z2
          omega
        · have z : M1.1 100 7 = 0 := z
          rw [h7] at z
          have hok : ok = true := by simpa using f_b0.mp z
          subst hok
          obtain ⟨v1, v2⟩ := hv rfl
          rw [if_pos rfl] at hyr
          refine ⟨T, n, p1, a, false, 0, rfl, hY, ?_⟩
          refine And.intro (fun g => ?_) (fun g => ?_)
          · have g := (f_sg_eq hY.lt (c := 59) (by omega)).mp g
            have hlt := f_is_lt g
            rw [if_neg (show ¬ n ≤ p1 by omega), if_neg (by omega), if_pos g] at hyr
            show X f_GM 136 [some (.ref 100), some (.int (nI cnt))] [] (f_up M1.1 100 5 (M1.1 100 5 + 1), M1.2)
            rw [h5, ← nI_succ]
            have hY2 : f_YS (f_up M1.1 100 5 (nI (p1 + 1)), M1.2) T n (p1 + 1) a false 0 := hY.sp (by omega)
            have hq2 : f_yq (f_zy a) M1 (f_up M1.1 100 5 (nI (p1 + 1)), M1.2) := f_yq.of (f_em.rf.uf (k := 5) (by decide))
            refine f_run_ok (stop := fun q => Nat.beq q 104) hX 40 _ _ _ _ _ ?_
            refine ⟨T, n, p1 + 1, a, y', rfl, hY2, v1, by have v2 : (f_rsL y'.2.2).length ≤ p1 := v2; omega, fun M3 hq3 hY3 hv3 => ?_⟩
            have q := ih (cnt + 1) (p1 + 1) y' M3 (by omega) (by omega) (by omega) ((hq.tr hq2).tr hq3) hY3 hv3 hyr
            rw [nI_succ] at q
            exact q
          · have g : ¬ f_is T n p1 59 = true := fun e => g ((f_sg_eq hY.lt (c := 59) (by omega)).mpr e)
            refine at146 M1 p1 _ hq hY (fun e => ?_) (fun e => ?_)
            · rw [if_pos (show n ≤ p1 by omega)] at hyr
              rw [hyr]
              exact ⟨v1, by rw [← e]; exact v2, rfl⟩
            · rw [if_neg (show ¬ n ≤ p1 by omega), if_neg (by omega), if_neg g] at hyr
              rw [hyr]
              exact ⟨rfl, rfl⟩
        · have z : ¬ M1.1 100 7 = 0 := z
          rw [h7] at z
          have hok : ok = false := by simpa using f_b_nt z
          subst hok
          rw [if_neg (show ¬ ((false, p1, y') : Bool × Nat × fYd).1 = true from Bool.false_ne_true)] at hyr
          exact bad146 M1 p1 _ hq hY (by rw [hyr]) (by rw [hyr])
    refine f_run_ok (stop := fun q => Nat.beq q 104) hX 20 _ _ _ _ _ ?_
    refine ⟨T, n, 0, a, (12, 2, []), rfl, hY0, hP0, Nat.zero_le _, fun M3 hq3 hY3 hv3 => ?_⟩
    exact loop 9 1 0 (12, 2, []) M3 (by omega) (by omega) (Nat.zero_le _) hq3 hY3 hv3 rfl
