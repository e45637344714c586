def S_spread : fSp := fun G As M R => match As with
  | [.ref 41, .int z] => ∃ (rs : List fRl) (L b kd v : Nat) (row : Nat → Nat) (c : Nat), G = f_GX ∧ z = nI b ∧ f_YH M L rs ∧ f_BK M b kd v row ∧ M.1 5 1 = nI c ∧ 1 ≤ c ∧ c ≤ 3 ∧ f_SE M ∧ (∀ M', f_ex f_CS [41, 43] M M' → f_WT M' (f_dp (f_may rs L kd v row) (f_price rs L kd) (f_tot (f_may rs L kd v row)) (f_base c)).1 → M'.2 41 5 = lN (f_tot (f_may rs L kd v row)) → M'.2 41 6 = lN (f_dp (f_may rs L kd v row) (f_price rs L kd) (f_tot (f_may rs L kd v row)) (f_base c)).2 → R G none M')
  | _ => False
set_option maxRecDepth 20000 in
theorem m_spread : f_Meets 9 (kX2_spread S_putLong S_may S_bitCount S_max S_at S_longAt S_pr S_share) S_spread := by
  intro G As M R hsp X hX hW
  match As, hsp with
  | [.ref 41, .int z], ⟨rs, L, b, kd, v, row, c, hG, hz, hY, hBK, hcu, hc1, hc3, hSE, hsp⟩ =>
    subst hG; subst hz
    have hL17 := hY.2.2.2
    have hml : ∀ S, f_may rs L kd v row S < 2 ^ 17 := fun S => f_may_lt hL17
    have hpl : ∀ S N, f_price rs L kd S N < 2 ^ 31 := fun S N => f_price_lt hL17 hY.1.1 hY.1.lt
    have hT : f_tot (f_may rs L kd v row) ≤ 17 * f_U := by
      unfold f_tot
      have : f_pc (f_may rs L kd v row 0) ≤ 17 := f_cnt_le _ 17
      rw [Nat.mul_comm]
      exact Nat.mul_le_mul_right _ (by omega)
    generalize hTT : f_tot (f_may rs L kd v row) = T at *
    have hT63 : T < 2 ^ 63 := by unfold f_U at hT; omega
    have hb697 : f_base c ≤ 137 := by unfold f_base; split <;> (try split) <;> (try split) <;> omega
    have loop2 : ∀ (d n : Nat) (M' : fMem) (u4 u6 u7 u8 : Option Value), d + n = f_base c → f_ex f_CS [41, 43] M M' → f_WT M' (f_dp (f_may rs L kd v row) (f_price rs L kd) T n).1 → M'.2 41 5 = lN T → M'.2 41 6 = lN (f_dp (f_may rs L kd v row) (f_price rs L kd) T n).2 → X f_GX 85 [some (.ref 41), some (.int (nI b)), some (.int (nI (f_base c))), some (.int (nI n)), u4, none, u6, u7, u8] [] M' := by
      intro d
      induction d with
      | zero =>
        intro n M' u4 u6 u7 u8 hd he hw h5 h6
        have hd : n = f_base c := by omega
        subst hd
        refine f_run_ok (stop := fun q => false) hX 30 _ _ _ _ _ ?_
        exact And.intro (fun h => hsp M' he hw h5 h6) (fun h => absurd ((nI_leI (a := f_base c) (b := f_base c) (by omega) (by omega)).mpr (by omega)) h)
      | succ d ih =>
        intro n M' u4 u6 u7 u8 hd he hw h5 h6
        have hn := f_set_pc hc3 (show n < f_base c by omega)
        have hso := f_set_ok (i := n) (by omega)
        have hwn := hw n (by omega)
        have hsum := f_dp_sum (pr := f_price rs L kd) (T := T) hc3 hml n (by omega)
        have hle := f_sm_ge (f_dp (f_may rs L kd v row) (f_price rs L kd) T n).1 697 n (by omega)
        have hset : M'.1 42 n = nI (f_set n) := by rw [he.1 42 (by decide)]; exact hSE n (by omega)
        have hdp : f_dp (f_may rs L kd v row) (f_price rs L kd) T (n + 1) = f_dst (f_may rs L kd v row) (f_price rs L kd) n (f_dp (f_may rs L kd v row) (f_price rs L kd) T n) := rfl
        generalize hs : f_dp (f_may rs L kd v row) (f_price rs L kd) T n = s at *
        have ha : f_atL 697 (M'.2 43) (nI n) = lN (s.1 n) := by rw [f_atL_in (by omega) (by decide), hwn]
        have hb : f_at (697, M'.1 42) (nI n) = nI (f_set n) := by rw [f_at_in (t := (697, M'.1 42)) (by show n < 697; omega) (by show 697 < 2 ^ 31; decide)]; exact hset
        refine f_run_ok (stop := fun q => Nat.beq q 85) hX 90 _ _ _ _ _ ?_
        refine And.intro (fun h => absurd ((nI_leI (a := f_base c) (b := n) (by omega) (by omega)).mp h) (by omega)) (fun h => ?_)
        refine And.intro (fun h2 => ?_) (fun h2 => ?_)
        · have h2 : lg_cmp (f_atL 697 (M'.2 43) (nI n)) 0 ≤ 0 := h2
          rw [ha] at h2
          have h2 := (f_lcmp (by omega)).mp h2
          refine ⟨0, rfl, by decide, ?_⟩
          refine And.intro (fun h3 => ?_) (fun h3 => absurd (show nI (f_pc 0) ≤ 0 by decide +kernel) h3)
          have e : f_dp (f_may rs L kd v row) (f_price rs L kd) T (n + 1) = s := by rw [hdp]; unfold f_dst; rw [if_pos (Or.inl h2)]
          have q := ih (n + 1) M' (some (.long (f_atL 697 (M'.2 43) (nI n)))) (some (.int (f_at (697, M'.1 42) (nI n)))) (some (.int 0)) (some (.int (nI (f_pc 0)))) (by omega) he (by rw [e]; exact hw) h5 (by rw [e]; exact h6)
          rw [nI_succ] at q
          exact q
        · have h2 : ¬ lg_cmp (f_atL 697 (M'.2 43) (nI n)) 0 ≤ 0 := h2
          rw [ha] at h2
          have h2 : ¬ s.1 n = 0 := fun z => h2 ((f_lcmp (by omega)).mpr z)
          refine ⟨rs, L, b, kd, v, row, f_set n, rfl, rfl, hb, hso.1.1, hY.ex he (by decide) (by decide) (by decide) (by decide) (by decide), hBK.ex he (by decide) (by decide) (by decide), fun M2 he2 => ?_⟩
          refine ⟨f_may rs L kd v row (f_set n), rfl, hml _, ?_⟩
          have hw2 : f_WT M2 s.1 := fun i hi => by rw [he2.2 43 (by decide)]; exact hw i hi
          have he2' : f_ex f_CS [41, 43] M M2 := he.tr (he2.mono (fun _ h => h) (fun _ h => absurd h (by simp)))
          have hp17 : f_pc (f_may rs L kd v row (f_set n)) ≤ 17 := f_cnt_le _ 17
          refine And.intro (fun h3 => ?_) (fun h3 => ?_)
          · have h3 := (nI_leI (b := 0) (by omega) (by omega)).mp h3
            have e : f_dp (f_may rs L kd v row) (f_price rs L kd) T (n + 1) = s := by rw [hdp]; unfold f_dst; rw [if_pos (Or.inr (by omega))]
            have q := ih (n + 1) M2 (some (.long (f_atL 697 (M'.2 43) (nI n)))) (some (.int (f_at (697, M'.1 42) (nI n)))) (some (.int (nI (f_may rs L kd v row (f_set n))))) (some (.int (nI (f_pc (f_may rs L kd v row (f_set n)))))) (by omega) he2' (by rw [e]; exact hw2) (by rw [he2.2 41 (by decide)]; exact h5) (by rw [e, he2.2 41 (by decide)]; exact h6)
            rw [nI_succ] at q
            exact q
          · have h3 : ¬ f_pc (f_may rs L kd v row (f_set n)) ≤ 0 := fun z => h3 ((nI_leI (b := 0) (by omega) (by omega)).mpr z)
            generalize hm : f_may rs L kd v row (f_set n) = m at *
            have hne : ¬ (nI (f_pc m)).toInt64 = 0 := by
              rw [f_wide (by omega)]
              exact fun z => h3 (by have := (pk_lEQ (b := 0) (by omega) (by omega)).mp z; omega)
            refine And.intro hne ?_
            refine ⟨rs, L, b, kd, v, row, f_set n, m, rfl, rfl, hb, hso.1.1, rfl, by rw [← hm]; exact hml _, hY.ex he2' (by decide) (by decide) (by decide) (by decide) (by decide), hBK.ex he2' (by decide) (by decide) (by decide), fun M3 he3 => ?_⟩
            refine And.intro hne ?_
            have hdiv : f_atL 697 (M'.2 43) (nI n) / (nI (f_pc m)).toInt64 = lN (s.1 n / f_pc m) := by rw [ha, f_wide (by omega)]; exact pk_lDiv (by omega) (by omega) (by omega)
            have hval : M2.2 41 6 + f_atL 697 (M'.2 43) (nI n) / (nI (f_pc m)).toInt64 * (nI (f_price rs L kd (f_set n) m)).toInt64 = lN (s.2 + s.1 n / f_pc m * f_price rs L kd (f_set n) m) := by
              rw [hdiv, f_wide (hpl _ _), he2.2 41 (by decide), h6, lN_mul, lN_add]
            have e : f_dp (f_may rs L kd v row) (f_price rs L kd) T (n + 1) = (f_shr (f_set n) m (s.1 n / f_pc m) 17 (f_us s.1 n 0), s.2 + s.1 n / f_pc m * f_price rs L kd (f_set n) m) := by
              rw [hdp]; unfold f_dst; rw [hm, if_neg (by omega)]
            have hMa : f_ex f_CS [41, 43] M (M3.1, f_upL M3.2 41 6 (lN (s.2 + s.1 n / f_pc m * f_price rs L kd (f_set n) m))) := (he2'.tr (he3.mono (fun _ h => h) (fun _ h => absurd h (by simp)))).upL (by decide)
            have hWa : f_WT (M3.1, f_upL M3.2 41 6 (lN (s.2 + s.1 n / f_pc m * f_price rs L kd (f_set n) m))) s.1 := fun i hi => by
              rw [← hw2 i hi, ← he3.2 43 (by decide)]; rfl
            have hfin : ∀ M4, f_ex [] [43] (M3.1, f_upL (f_upL M3.2 41 6 (lN (s.2 + s.1 n / f_pc m * f_price rs L kd (f_set n) m))) 43 n 0) M4 → f_WT M4 (f_shr (f_set n) m (s.1 n / f_pc m) 17 (f_us s.1 n 0)) → X f_GX 85 [some (.ref 41), some (.int (nI b)), some (.int (nI (f_base c))), some (.int (nI (n + 1))), some (.long (f_atL 697 (M'.2 43) (nI n))), none, some (.int (f_at (697, M'.1 42) (nI n))), some (.int (nI m)), some (.int (nI (f_pc m)))] [] M4 := by
              intro M4 he4 hw4
              refine ih (n + 1) M4 _ _ _ _ (by omega) ((hMa.upL (c := 43) (by decide)).tr (he4.mono (fun _ h => absurd h (by simp)) (fun _ h => List.mem_cons_of_mem _ h))) (by rw [e]; exact hw4) ?_ ?_
              · rw [he4.2 41 (by decide)]
                show M3.2 41 5 = _
                rw [he3.2 41 (by decide), he2.2 41 (by decide)]; exact h5
              · rw [he4.2 41 (by decide), e]; rfl
            have hwt := hWa.us (j := n) (q := 0)
            rw [nI_succ] at hfin
            rw [← hval, ← f_putL_in (n := 697) (by omega) (by decide)] at hwt
            rw [← hval] at hfin
            have e9 : (M3.1, f_upL (f_upL M3.2 41 6 (M2.2 41 6 + f_atL 697 (M'.2 43) (nI n) / (nI (f_pc m)).toInt64 * (nI (f_price rs L kd (f_set n) m)).toInt64)) 43 n 0) = f_putL 697 43 (nI n) 0 (M3.1, f_upL M3.2 41 6 (M2.2 41 6 + f_atL 697 (M'.2 43) (nI n) / (nI (f_pc m)).toInt64 * (nI (f_price rs L kd (f_set n) m)).toInt64)) := by rw [f_putL_in (n := 697) (c := 43) (j := n) (by omega) (by decide)]
            rw [e9] at hfin
            exact ⟨f_set n, m, s.1 n / f_pc m, f_us s.1 n 0, rfl, hb, rfl, by rw [← hm]; exact hml _, hdiv, fun x h1 hx _ => f_ok_or hso.1 (by omega) h1 hx, hwt, hfin⟩
    obtain ⟨g, hg, hgb⟩ := f_arI_base f_GX M
    have loop1 : ∀ (d n : Nat) (M' : fMem), d + n = 697 → f_ex [] [43] M M' → (∀ i, i < n → M'.2 43 i = 0) → X f_GX 2 [some (.ref 41), some (.int (nI b)), some (.int (nI n)), none, none, none, none, none, none] [] M' := by
      intro d
      induction d with
      | zero =>
        intro n M' hd he hz
        have hd : n = 697 := by omega
        subst hd
        refine f_run_ok (stop := fun q => Nat.beq q 85) hX 90 _ _ _ _ _ ?_
        refine And.intro (fun h => ?_) (fun h => absurd ((nI_leI (a := 697) (b := 697) (by omega) (by omega)).mpr (by omega)) h)
        have heA : f_ex [] [41, 43] M (M'.1, f_upL M'.2 41 6 0) := (he.mono (fun _ h => h) (fun _ h => List.mem_cons_of_mem _ h)).upL (by decide)
        refine ⟨rs, L, b, kd, v, row, 0, rfl, rfl, rfl, by decide, hY.ex heA (by decide) (by decide) (by decide) (by decide) (by decide), hBK.ex heA (by decide) (by decide) (by decide), fun M2 he2 => ?_⟩
        refine ⟨f_may rs L kd v row 0, rfl, hml _, ?_⟩
        have hp17 : f_pc (f_may rs L kd v row 0) ≤ 17 := f_cnt_le _ 17
        have hmx : (129859329600 : Int64) * (if (1 : Int32) < nI (f_pc (f_may rs L kd v row 0)) then nI (f_pc (f_may rs L kd v row 0)) else 1).toInt64 = lN T := by
          have e1 : (if (1 : Int32) < nI (f_pc (f_may rs L kd v row 0)) then nI (f_pc (f_may rs L kd v row 0)) else 1) = nI (max 1 (f_pc (f_may rs L kd v row 0))) := by
            by_cases h1 : 1 < f_pc (f_may rs L kd v row 0)
            · have z1 : (1 : Int32) < nI (f_pc (f_may rs L kd v row 0)) := nI_lt (a := 1) h1 (by omega)
              rw [if_pos z1, Nat.max_eq_right (by omega)]
            · have z1 : ¬ (1 : Int32) < nI (f_pc (f_may rs L kd v row 0)) := fun z => h1 ((nI_ltI (a := 1) (by omega) (by omega)).mp z)
              rw [if_neg z1, Nat.max_eq_left (by omega)]; rfl
          rw [e1, f_wide (by omega), ← hTT]
          exact lN_mul f_U _
        have hc5 : M2.1 5 1 = nI c := by rw [he2.1 5 (by decide)]; show M'.1 5 1 = _; rw [he.1 5 (by decide)]; exact hcu
        have q := loop2 (f_base c) 0 (M2.1, f_upL (f_upL M2.2 41 5 (lN T)) 43 0 (lN T)) none none none none (by omega) ((((heA.mono (fun _ h => absurd h (by simp)) (fun _ h => h)).tr (he2.mono (fun _ h => h) (fun _ h => absurd h (by simp)))).upL (c := 41) (by decide)).upL (c := 43) (by decide)) (fun i hi => by
          show (if 43 = 43 then (if i = 0 then lN T else M2.2 43 i) else M2.2 43 i) = lN (if i = 0 then T else 0)
          rw [if_pos rfl]
          by_cases e : i = 0
          · rw [if_pos e, if_pos e]
          · rw [if_neg e, if_neg e, he2.2 43 (by decide)]; exact hz i hi) rfl (by
          show M2.2 41 6 = lN 0
          rw [he2.2 41 (by decide)]; rfl)
        have q2 : match f_arI 0 f_GX M 1001 with | some t => X f_GX 85 [some (.ref 41), some (.int (nI b)), some (.int (f_at t (M2.1 5 1))), some (.int 0), none, none, none, none, none] [] (f_putL 697 43 (nI 0) (lN T) (M2.1, f_upL M2.2 41 5 (lN T))) | none => False := by
          rw [hg]
          show X f_GX 85 [some (.ref 41), some (.int (nI b)), some (.int (f_at (4, g) (M2.1 5 1))), some (.int 0), none, none, none, none, none] [] _
          rw [hc5, f_at_in (t := (4, g)) (by show _ < 4; omega) (by show 4 < 2 ^ 31; omega)]
          show X f_GX 85 [some (.ref 41), some (.int (nI b)), some (.int (g c)), some (.int 0), none, none, none, none, none] [] _
          rw [hgb _ (by omega), f_putL_in (n := 697) (c := 43) (j := 0) (by omega) (by decide)]
          exact q
        rw [← hmx] at q2
        exact q2
      | succ d ih =>
        intro n M' hd he hz
        refine f_run_ok (stop := fun q => Nat.beq q 2) hX 90 _ _ _ _ _ ?_
        refine And.intro (fun h => absurd ((nI_leI (a := 697) (b := n) (by omega) (by omega)).mp h) (by omega)) (fun h => ?_)
        have q := ih (n + 1) (M'.1, f_upL M'.2 43 n 0) (by omega) (he.upL (by decide)) (fun i hi => by
          show (if 43 = 43 then (if i = n then (0 : Int64) else M'.2 43 i) else M'.2 43 i) = 0
          rw [if_pos rfl]
          by_cases e : i = n
          · rw [if_pos e]
          · rw [if_neg e]; exact hz i (by omega))
        rw [nI_succ, ← f_putL_in (n := 697) (by omega) (by decide)] at q
        exact q
    refine f_run_ok (stop := fun q => Nat.beq q 2) hX 10 _ _ _ _ _ ?_
    exact loop1 697 0 M rfl f_ex.rf (fun i hi => by omega)
