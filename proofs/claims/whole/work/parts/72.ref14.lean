/-! ===== the reference: looks, the walk ===== -/
theorem v5 (k : Nat) (h : k < 5) : vp_in (nI k) 5 := vp_in_nI h (by omega)
theorem v64 (k : Nat) (h : k < 64) : vp_in (nI k) 64 := vp_in_nI h (by omega)
set_option maxRecDepth 20000 in
theorem m_lk : f_Meets 14 kX12_looks S_lk := by
  intro G As M R hsp X hX hW
  match As, hsp with
  | [.ref 100, .int zb, .int zx, .int zf, .int zt, .int zc], ⟨y, b, x, f, t, c, kd, hG, hH, hrok, hzb, hb, hkd, hkd7, hzx, hzf, hzt, hzc, hfx, hxt, ht17, hc, hsp⟩ =>
    subst hG; subst hzb; subst hzx; subst hzf; subst hzt; subst hzc
    -- the end: every step done
    have main : ∀ (M1 : fMem), f_em f_LKL M M1 → f_by M1 f t c kd x → M1.1 100 11 = nI 0 → M1.1 100 12 = nI 0 → X f_GM 76 [some (.ref 100), some (.int (nI b)), some (.int (nI x)), some (.int (nI f)), some (.int (nI t)), some (.int (nI c)), none, none, none, none, none, none, none, none] [] M1 := by
      intro M1 he1 hby1 h11 h12
      have e101 : M1.1 101 = M.1 101 := he1.1 101 (by decide) (by decide)
      rcases hH with ⟨h6, hy⟩ | ⟨a, _, _, ha, h6, _, _, _, _, _, _, g1, ⟨g2, g2b⟩, g3⟩
      · refine f_run_ok (stop := fun q => Nat.beq q 133) hX 60 _ _ _ _ _ ?_
        refine And.intro (v9 6 (by decide)) (And.intro (fun _ => ?_) (fun z => absurd (show M1.1 101 6 = -1 by rw [e101]; exact h6) z))
        refine And.intro (v9 6 (by decide)) ?_
        refine f_run_ok (stop := fun q => false) hX 60 _ _ _ _ _ ?_
        refine And.intro (fun _ => ?_) (fun z => ?_)
        · subst hy
          exact hsp M1 he1 h11 h12
        · refine absurd ?_ z
          show (206 + 140 * M1.1 101 6 : Int32) + 0 ≤ 206 + 140 * M1.1 101 6
          rw [f_add0]
          exact Int32.le_refl _
      · have hlen : (f_rsL y.2.2).length = (f_it y.2.2).length := by rw [← f_it_rsL, List.length_map]
        rw [hlen] at g1 g2
        have hfold := f_it_fold f t c kd x y.2.2 0 0 hrok
        rw [Nat.zero_add, Nat.zero_add] at hfold
        have hwf := f_wfI_rs y.2.2 hrok
        have gI : ∀ j z, (f_it y.2.2)[j]? = some z → M.1 101 (206 + 140 * a + j) = f_itI z ∧ f_gs (f_itI z) := fun j z hz => by
          have h1 : (f_rsL y.2.2)[j]? = some (f_itI z) := by rw [← f_it_rsL, List.getElem?_map, hz]; rfl
          exact ⟨g3 j _ h1, g2b _ (List.mem_of_getElem? h1)⟩
        generalize f_hsm y.2.2 f t c kd x = HS at *
        generalize f_psm y.2.2 f t c kd x = PS at *
        generalize hev : (fun q => f_tst q f t c kd x) = ev at *
        have evx : ∀ q, ev q = f_cmp (q / 100 % 3) (f_val (q / 300) f t c kd x) (q % 100) := fun q => by rw [← hev]; rfl
        have loop : ∀ (r dn : List fIt) (st : List Bool) (h p : Nat) (M' : fMem) (u10 u11 u12 u13 : Option Value), f_it y.2.2 = dn ++ r → f_wfI r st.length → st.length ≤ 60 → r.foldl (f_ls1 ev) (st, h, p) = ([], HS, PS) → f_em f_LKL M M' → f_by M' f t c kd x → f_TS M' st → M'.1 100 11 = nI h → M'.1 100 12 = nI p → X f_GM 133 [some (.ref 100), some (.int (nI b)), some (.int (nI x)), some (.int (nI f)), some (.int (nI t)), some (.int (nI c)), some (.int (nI (f_it y.2.2).length)), some (.int (nI (206 + 140 * a))), some (.int (nI st.length)), some (.int (nI (206 + 140 * a + dn.length))), u10, u11, u12, u13] [] M' := by
          intro r
          induction r with
          | nil =>
            intro dn st h p M' u10 u11 u12 u13 hd _ _ hf he hby hts h11 h12
            rw [List.append_nil] at hd
            have hf : (st, h, p) = ([], HS, PS) := hf
            cases hf
            refine f_run_ok (stop := fun q => false) hX 40 _ _ _ _ _ ?_
            refine And.intro (fun _ => hsp M' he h11 h12) (fun z => ?_)
            refine absurd ?_ z
            show nI (206 + 140 * a) + nI (f_it y.2.2).length ≤ nI (206 + 140 * a + dn.length)
            rw [nI_add, hd]
            exact Int32.le_refl _
          | cons it r ih =>
            intro dn st h p M' u10 u11 u12 u13 hd hw hst hf he hby hts h11 h12
            have hlt : (f_it y.2.2).length = dn.length + (r.length + 1) := by rw [hd, List.length_append]; rfl
            have hit : (f_it y.2.2)[dn.length]? = some it := by rw [hd, List.getElem?_append_right (Nat.le_refl _), Nat.sub_self]; rfl
            obtain ⟨gi, gs⟩ := gI _ _ hit
            have hd2 : f_it y.2.2 = (dn ++ [it]) ++ r := by rw [hd, List.append_assoc]; rfl
            have el : (dn ++ [it]).length = dn.length + 1 := by rw [List.length_append]; rfl
            obtain ⟨s1, s2⟩ := f_ix (z := nI (206 + 140 * a + dn.length)) (n := 906) rfl (by omega) (by omega)
            have e101' : M'.1 101 = M.1 101 := he.1 101 (by decide) (by decide)
            have est : M'.1 101 (nI (206 + 140 * a + dn.length)).toNatClampNeg = f_itI it := by rw [s2, e101']; exact gi
            -- to the next step
            have nx : ∀ (st2 : List Bool) (h2 p2 : Nat) (M2 : fMem) (u10 u11 u12 u13 : Option Value), f_ls1 ev (st, h, p) it = (st2, h2, p2) → f_wfI r st2.length → st2.length ≤ 60 → f_em f_LKL M M2 → f_by M2 f t c kd x → f_TS M2 st2 → M2.1 100 11 = nI h2 → M2.1 100 12 = nI p2 → X f_GM 446 [some (.ref 100), some (.int (nI b)), some (.int (nI x)), some (.int (nI f)), some (.int (nI t)), some (.int (nI c)), some (.int (nI (f_it y.2.2).length)), some (.int (nI (206 + 140 * a))), some (.int (nI st2.length)), some (.int (nI (206 + 140 * a + dn.length))), u10, u11, u12, u13] [] M2 := by
              intro st2 h2 p2 M2 u10 u11 u12 u13 hs hw2 hl2 he2 hby2 ht2 k11 k12
              have q := ih (dn ++ [it]) st2 h2 p2 M2 u10 u11 u12 u13 hd2 hw2 hl2 (by rw [← hs]; exact hf) he2 hby2 ht2 k11 k12
              rw [el, ← Nat.add_assoc, nI_succ] at q
              exact f_run_ok (stop := fun q => Nat.beq q 133) hX 20 _ _ _ _ _ q
            have upTS : ∀ (k : Nat) (w : Int32), f_em f_LKL M (f_up M'.1 104 k w, M'.2) ∧ f_by (f_up M'.1 104 k w, M'.2) f t c kd x ∧ f_up M'.1 104 k w 100 11 = nI h ∧ f_up M'.1 104 k w 100 12 = nI p := fun k w => ⟨he.up (by decide), fun l hl => by
              show f_up M'.1 104 k w 103 l = _
              rw [f_up_ne (by decide)]; exact hby l hl, by rw [f_up_ne (by decide)]; exact h11, by rw [f_up_ne (by decide)]; exact h12⟩
            refine f_run_ok (stop := fun q => Nat.beq q 152) hX 40 _ _ _ _ _ ?_
            refine And.intro (fun z => ?_) (fun _ => And.intro s1 ?_)
            · have z : nI (206 + 140 * a) + nI (f_it y.2.2).length ≤ nI (206 + 140 * a + dn.length) := z
              rw [nI_add] at z
              exact absurd ((nI_leI (by omega) (by omega)).mp z) (by omega)
            show X f_GM 152 [some (.ref 100), some (.int (nI b)), some (.int (nI x)), some (.int (nI f)), some (.int (nI t)), some (.int (nI c)), some (.int (nI (f_it y.2.2).length)), some (.int (nI (206 + 140 * a))), some (.int (nI st.length)), some (.int (nI (206 + 140 * a + dn.length))), some (.int (M'.1 101 (nI (206 + 140 * a + dn.length)).toNatClampNeg)), u11, u12, u13] [] M'
            rw [est]
            cases it with
            | inl q =>
              have hw : if q < 2000 then st.length + 1 ≤ 60 ∧ f_wfI r (st.length + 1) else if q = 2000 then 1 ≤ st.length ∧ f_wfI r st.length else 2 ≤ st.length ∧ f_wfI r (st.length - 1) := hw
              have eI : f_itI (Sum.inl q) = f_rst q := rfl
              rw [eI] at gs ⊢
              by_cases h2000 : q < 2000
              · rw [if_pos h2000] at hw
                rw [f_rst_test h2000] at gs ⊢
                have h8 := gs _ (by omega) rfl
                obtain ⟨d1, d2, d3⟩ := f_stq (a := q / 300) (h := q / 100 % 3) (v := q % 100) (by omega) (by omega)
                rw [d1] at h8
                have hstp : f_ls1 ev (st, h, p) (Sum.inl q) = (ev q :: st, h, p) := by
                  show (f_stp ev st q, h, p) = _
                  unfold f_stp; rw [if_pos h2000]
                have hnb : q / 300 + 8 * (q / 100 % 3) + 32 * (q % 100) < 10000 := by omega
                generalize q / 300 + 8 * (q / 100 % 3) + 32 * (q % 100) = n at *
                have c1 : nI n - nI n / 8 * 8 = nI (q / 300) := by rw [← d1]; exact pk_rem (d := 8) (by omega) (by omega) (by omega)
                have c2 : nI n / 8 - nI n / 8 / 4 * 4 = nI (q / 100 % 3) := by
                  rw [show nI n / 8 = nI (n / 8) from pk_div (d := 8) (by omega) (by omega) (by omega), ← d2]
                  exact pk_rem (d := 4) (by omega) (by omega) (by omega)
                have c3 : nI n / 32 = nI (q % 100) := by rw [← d3]; exact pk_div (d := 32) (by omega) (by omega) (by omega)
                obtain ⟨b1, b2⟩ := f_ix (n := 5) c1 h8 (by omega)
                have push : ∀ cc : Bool, ev q = cc → ∀ u10 u11 u12 u13, X f_GM 244 [some (.ref 100), some (.int (nI b)), some (.int (nI x)), some (.int (nI f)), some (.int (nI t)), some (.int (nI c)), some (.int (nI (f_it y.2.2).length)), some (.int (nI (206 + 140 * a))), some (.int (nI st.length)), some (.int (nI (206 + 140 * a + dn.length))), u10, u11, u12, u13] [.int (f_b cc), .int (nI st.length), .ref 104] M' := by
                  intro cc hcc u10 u11 u12 u13
                  obtain ⟨t1, t2⟩ := f_ix (z := nI st.length) (n := 64) rfl (by omega) (by omega)
                  obtain ⟨w1, w2, w3, w4⟩ := upTS st.length (f_b cc)
                  refine f_run_ok (stop := fun q => Nat.beq q 446) hX 20 _ _ _ _ _ ?_
                  refine And.intro t1 (And.intro (f_bz cc) ?_)
                  have q := nx (ev q :: st) h p (f_up M'.1 104 st.length (f_b cc), M'.2) u10 u11 u12 u13 hstp hw.2 hw.1 w1 w2 ⟨by rw [hcc]; show f_up M'.1 104 st.length (f_b cc) 104 st.length = _; exact f_ups, hts.up (Nat.le_refl _)⟩ w3 w4
                  show X f_GM 446 [some (.ref 100), some (.int (nI b)), some (.int (nI x)), some (.int (nI f)), some (.int (nI t)), some (.int (nI c)), some (.int (nI (f_it y.2.2).length)), some (.int (nI (206 + 140 * a))), some (.int (nI st.length + 1)), some (.int (nI (206 + 140 * a + dn.length))), u10, u11, u12, u13] [] (f_up M'.1 104 (nI st.length).toNatClampNeg (f_b cc), M'.2)
                  rw [t2, ← nI_succ]
                  exact q
                have hval := hby (q / 300) h8
                generalize hvv : f_val (q / 300) f t c kd x = vv at *
                have hvb : vv < 200 := by
                  rw [← hvv]
                  unfold f_val
                  split
                  · omega
                  · split
                    · omega
                    · split
                      · omega
                      · split <;> omega
                have evq := evx q
                rw [hvv] at evq
                refine f_run_ok (stop := fun q => Nat.beq q 185) hX 60 _ _ _ _ _ ?_
                refine And.intro (fun z => absurd z (nI_pos (by omega))) (fun _ => ?_)
                refine And.intro (by decide) (And.intro b1 (And.intro (by decide) (And.intro (by decide) (And.intro (by decide) ?_))))
                show X f_GM 185 [some (.ref 100), some (.int (nI b)), some (.int (nI x)), some (.int (nI f)), some (.int (nI t)), some (.int (nI c)), some (.int (nI (f_it y.2.2).length)), some (.int (nI (206 + 140 * a))), some (.int (nI st.length)), some (.int (nI (206 + 140 * a + dn.length))), some (.int (nI n)), some (.int (M'.1 103 (nI n - nI n / 8 * 8).toNatClampNeg)), some (.int (nI n / 8 - nI n / 8 / 4 * 4)), some (.int (nI n / 32))] [] M'
                rw [b2, hval, c2, c3]
                refine f_run_ok (stop := fun q => Nat.beq q 244) hX 60 _ _ _ _ _ ?_
                refine And.intro (fun k0 => And.intro (fun k1 => ?_) (fun k1 => ?_)) (fun k0 => And.intro (fun k1 => And.intro (fun k2 => ?_) (fun k2 => ?_)) (fun k1 => And.intro (fun k2 => ?_) (fun k2 => ?_)))
                · have k0 := (nI_eq (b := 0) (by omega) (by omega)).mp k0
                  have k1 := (nI_leI (by omega) (by omega)).mp k1
                  exact push false (by rw [evq]; unfold f_cmp; rw [if_pos k0]; exact decide_eq_false (by omega)) _ _ _ _
                · have k0 := (nI_eq (b := 0) (by omega) (by omega)).mp k0
                  have k1 : ¬ q % 100 ≤ vv := fun z => k1 (nI_le z (by omega))
                  exact push true (by rw [evq]; unfold f_cmp; rw [if_pos k0]; exact decide_eq_true (by omega)) _ _ _ _
                · have k1 := (nI_eq (b := 1) (by omega) (by omega)).mp k1
                  have k2 := (nI_eq (by omega) (by omega)).mp k2
                  exact push true (by rw [evq]; unfold f_cmp; rw [if_neg (by omega), if_pos k1]; exact decide_eq_true k2) _ _ _ _
                · have k1 := (nI_eq (b := 1) (by omega) (by omega)).mp k1
                  have k2 : ¬ vv = q % 100 := fun z => k2 (by rw [z])
                  exact push false (by rw [evq]; unfold f_cmp; rw [if_neg (by omega), if_pos k1]; exact decide_eq_false k2) _ _ _ _
                · have k0 : ¬ q / 100 % 3 = 0 := fun z => k0 (by rw [z]; rfl)
                  have k1 : ¬ q / 100 % 3 = 1 := fun z => k1 (by rw [z]; rfl)
                  have k2 := (nI_leI (by omega) (by omega)).mp k2
                  exact push false (by rw [evq]; unfold f_cmp; rw [if_neg k0, if_neg k1]; exact decide_eq_false (by omega)) _ _ _ _
                · have k0 : ¬ q / 100 % 3 = 0 := fun z => k0 (by rw [z]; rfl)
                  have k1 : ¬ q / 100 % 3 = 1 := fun z => k1 (by rw [z]; rfl)
                  have k2 : ¬ vv ≤ q % 100 := fun z => k2 (nI_le z (by omega))
                  exact push true (by rw [evq]; unfold f_cmp; rw [if_neg k0, if_neg k1]; exact decide_eq_true (by omega)) _ _ _ _
              · rw [if_neg h2000] at hw
                by_cases hnot : q = 2000
                · rw [if_pos hnot] at hw
                  subst hnot
                  rw [f_rst_not]
                  cases st with
                  | nil => exact absurd hw.1 (by decide)
                  | cons a0 s =>
                    have hl60 : s.length + 1 ≤ 60 := hst
                    have hstp : f_ls1 ev (a0 :: s, h, p) (Sum.inl 2000) = ((!a0) :: s, h, p) := rfl
                    obtain ⟨t1, t2⟩ := f_ix (n := 64) (nI_pred s.length) (by omega) (by omega)
                    have push : ∀ cc : Bool, (!a0) = cc → X f_GM 282 [some (.ref 100), some (.int (nI b)), some (.int (nI x)), some (.int (nI f)), some (.int (nI t)), some (.int (nI c)), some (.int (nI (f_it y.2.2).length)), some (.int (nI (206 + 140 * a))), some (.int (nI (s.length + 1))), some (.int (nI (206 + 140 * a + dn.length))), some (.int (-1)), u11, u12, u13] [.int (f_b cc), .int (nI (s.length + 1) - 1), .ref 104] M' := by
                      intro cc hcc
                      obtain ⟨w1, w2, w3, w4⟩ := upTS s.length (f_b cc)
                      refine f_run_ok (stop := fun q => Nat.beq q 446) hX 20 _ _ _ _ _ ?_
                      refine And.intro t1 (And.intro (f_bz cc) ?_)
                      show X f_GM 446 [some (.ref 100), some (.int (nI b)), some (.int (nI x)), some (.int (nI f)), some (.int (nI t)), some (.int (nI c)), some (.int (nI (f_it y.2.2).length)), some (.int (nI (206 + 140 * a))), some (.int (nI (s.length + 1))), some (.int (nI (206 + 140 * a + dn.length))), some (.int (-1)), u11, u12, u13] [] (f_up M'.1 104 (nI (s.length + 1) - 1).toNatClampNeg (f_b cc), M'.2)
                      rw [t2]
                      exact nx ((!a0) :: s) h p (f_up M'.1 104 s.length (f_b cc), M'.2) _ _ _ _ hstp hw.2 hl60 w1 w2 ⟨by rw [hcc]; show f_up M'.1 104 s.length (f_b cc) 104 s.length = _; exact f_ups, hts.2.up (Nat.le_refl _)⟩ w3 w4
                    refine f_run_ok (stop := fun q => Nat.beq q 282) hX 60 _ _ _ _ _ ?_
                    refine And.intro (fun _ => ?_) (fun z => absurd (show (-1 : Int32) < 0 by decide) z)
                    refine And.intro (fun _ => ?_) (fun z => absurd rfl z)
                    refine And.intro t1 (And.intro (fun z => ?_) (fun z => ?_))
                    · have z : M'.1 104 (nI (s.length + 1) - 1).toNatClampNeg = 0 := z
                      rw [t2, hts.1] at z
                      exact push true (by rw [f_b0.mp z]; rfl)
                    · have z : ¬ M'.1 104 (nI (s.length + 1) - 1).toNatClampNeg = 0 := z
                      rw [t2, hts.1] at z
                      exact push false (by rw [f_b_nt z]; rfl)
                · rw [if_neg hnot] at hw
                  cases st with
                  | nil => exact absurd hw.1 (by decide)
                  | cons r0 s0 =>
                    cases s0 with
                    | nil => exact absurd (show 2 ≤ 1 from hw.1) (by decide)
                    | cons l0 s =>
                      have hl60 : s.length + 1 + 1 ≤ 60 := hst
                      have hw2 : f_wfI r (s.length + 1) := hw.2
                      have hstp : f_ls1 ev (r0 :: l0 :: s, h, p) (Sum.inl q) = ((if q = 2001 then l0 && r0 else l0 || r0) :: s, h, p) := by
                        show (f_stp ev (r0 :: l0 :: s) q, h, p) = _
                        unfold f_stp
                        rw [if_neg h2000, if_neg hnot]
                      have m1 : nI (s.length + 1 + 1) + (-1) = nI (s.length + 1) := pk_m1 _
                      have m2 : nI (s.length + 1 + 1) + (-1) - 1 = nI s.length := by rw [m1]; exact nI_pred _
                      obtain ⟨t1, t2⟩ := f_ix (n := 64) m2 (by omega) (by omega)
                      obtain ⟨v1, v2⟩ := f_ix (n := 64) m1 (by omega) (by omega)
                      have hr0 : M'.1 104 (nI (s.length + 1 + 1) + (-1)).toNatClampNeg = f_b r0 := by rw [v2]; exact hts.1
                      have hl0 : M'.1 104 (nI (s.length + 1 + 1) + (-1) - 1).toNatClampNeg = f_b l0 := by rw [t2]; exact hts.2.1
                      have push : ∀ (cc : Bool) (z10 : Int32), (if q = 2001 then l0 && r0 else l0 || r0) = cc → X f_GM 368 [some (.ref 100), some (.int (nI b)), some (.int (nI x)), some (.int (nI f)), some (.int (nI t)), some (.int (nI c)), some (.int (nI (f_it y.2.2).length)), some (.int (nI (206 + 140 * a))), some (.int (nI (s.length + 1 + 1) + (-1))), some (.int (nI (206 + 140 * a + dn.length))), some (.int z10), u11, u12, u13] [.int (f_b cc), .int (nI (s.length + 1 + 1) + (-1) - 1), .ref 104] M' := by
                        intro cc z10 hcc
                        obtain ⟨w1, w2, w3, w4⟩ := upTS s.length (f_b cc)
                        refine f_run_ok (stop := fun q => Nat.beq q 446) hX 20 _ _ _ _ _ ?_
                        refine And.intro t1 (And.intro (f_bz cc) ?_)
                        show X f_GM 446 [some (.ref 100), some (.int (nI b)), some (.int (nI x)), some (.int (nI f)), some (.int (nI t)), some (.int (nI c)), some (.int (nI (f_it y.2.2).length)), some (.int (nI (206 + 140 * a))), some (.int (nI (s.length + 1 + 1) + (-1))), some (.int (nI (206 + 140 * a + dn.length))), some (.int z10), u11, u12, u13] [] (f_up M'.1 104 (nI (s.length + 1 + 1) + (-1) - 1).toNatClampNeg (f_b cc), M'.2)
                        rw [t2, m1]
                        exact nx ((if q = 2001 then l0 && r0 else l0 || r0) :: s) h p (f_up M'.1 104 s.length (f_b cc), M'.2) _ _ _ _ hstp hw2 (by show s.length + 1 ≤ 60; omega) w1 w2 ⟨by rw [hcc]; show f_up M'.1 104 s.length (f_b cc) 104 s.length = _; exact f_ups, hts.2.2.up (Nat.le_refl _)⟩ w3 w4
                      by_cases hand : q = 2001
                      · subst hand
                        rw [f_rst_and]
                        rw [if_pos rfl] at push
                        refine f_run_ok (stop := fun q => Nat.beq q 368) hX 60 _ _ _ _ _ ?_
                        refine And.intro (fun _ => ?_) (fun z => absurd (show (-2 : Int32) < 0 by decide) z)
                        refine And.intro (fun z => absurd z (by decide)) (fun _ => ?_)
                        refine And.intro (fun z => absurd z (by decide)) (fun _ => ?_)
                        refine And.intro (fun _ => ?_) (fun z => absurd rfl z)
                        refine And.intro t1 (And.intro (fun z => ?_) (fun z => And.intro v1 (And.intro (fun z2 => ?_) (fun z2 => ?_))))
                        · have z : M'.1 104 (nI (s.length + 1 + 1) + (-1) - 1).toNatClampNeg = 0 := z
                          rw [hl0] at z
                          exact push false _ (by rw [f_b0.mp z]; rfl)
                        · have z2 : M'.1 104 (nI (s.length + 1 + 1) + (-1)).toNatClampNeg = 0 := z2
                          rw [hr0] at z2
                          exact push false _ (by rw [f_b0.mp z2, Bool.and_false])
                        · have z : ¬ M'.1 104 (nI (s.length + 1 + 1) + (-1) - 1).toNatClampNeg = 0 := z
                          rw [hl0] at z
                          have z2 : ¬ M'.1 104 (nI (s.length + 1 + 1) + (-1)).toNatClampNeg = 0 := z2
                          rw [hr0] at z2
                          exact push true _ (by rw [f_b_nt z, f_b_nt z2]; rfl)
                      · rw [f_rst_or h2000 hnot hand]
                        rw [if_neg hand] at push
                        refine f_run_ok (stop := fun q => Nat.beq q 368) hX 60 _ _ _ _ _ ?_
                        refine And.intro (fun _ => ?_) (fun z => absurd (show (-3 : Int32) < 0 by decide) z)
                        refine And.intro (fun z => absurd z (by decide)) (fun _ => ?_)
                        refine And.intro (fun z => absurd z (by decide)) (fun _ => ?_)
                        refine And.intro (fun z => absurd z (by decide)) (fun _ => ?_)
                        refine And.intro t1 (And.intro (fun z => And.intro v1 (And.intro (fun z2 => ?_) (fun z2 => ?_))) (fun z => ?_))
                        · have z : M'.1 104 (nI (s.length + 1 + 1) + (-1) - 1).toNatClampNeg = 0 := z
                          rw [hl0] at z
                          have z2 : M'.1 104 (nI (s.length + 1 + 1) + (-1)).toNatClampNeg = 0 := z2
                          rw [hr0] at z2
                          exact push false _ (by rw [f_b0.mp z, f_b0.mp z2]; rfl)
                        · have z2 : ¬ M'.1 104 (nI (s.length + 1 + 1) + (-1)).toNatClampNeg = 0 := z2
                          rw [hr0] at z2
                          exact push true _ (by rw [f_b_nt z2, Bool.or_true])
                        · have z : ¬ M'.1 104 (nI (s.length + 1 + 1) + (-1) - 1).toNatClampNeg = 0 := z
                          rw [hl0] at z
                          exact push true _ (by rw [f_b_nt z]; rfl)
            | inr q =>
              obtain ⟨hw1, hw2, hw3⟩ : st.length = 1 ∧ q.2 < 100 ∧ f_wfI r 0 := hw
              obtain ⟨b0, hb0⟩ : ∃ b0, st = [b0] := by
                cases st with
                | nil => cases hw1
                | cons b0 s =>
                  cases s with
                  | nil => exact ⟨b0, rfl⟩
                  | cons c0 s => simp at hw1
              subst hb0
              have eI : f_itI (Sum.inr q) = f_rsE q := rfl
              rw [eI]
              obtain ⟨n1, n2, n3, n4, n5⟩ := f_negE q.2 hw2 q.1
              have eq : ((q.1, q.2) : Bool × Nat) = q := rfl
              rw [eq] at n1 n2 n3 n4 n5
              have hstp : f_ls1 ev ([b0], h, p) (Sum.inr q) = ([], (if q.1 = false ∧ [b0] = [true] then h + q.2 else h), (if q.1 = true ∧ [b0] = [true] then p + q.2 else p)) := rfl
              generalize hH2 : (if q.1 = false ∧ [b0] = [true] then h + q.2 else h) = H2 at hstp
              generalize hP2 : (if q.1 = true ∧ [b0] = [true] then p + q.2 else p) = P2 at hstp
              have bone : [b0] = [true] ↔ b0 = true := ⟨fun z => by cases z; rfl, fun z => by rw [z]⟩
              have hH2 : (if q.1 = false ∧ b0 = true then h + q.2 else h) = H2 := by
                rw [← hH2]
                by_cases e : q.1 = false ∧ b0 = true
                · rw [if_pos e, if_pos ⟨e.1, bone.mpr e.2⟩]
                · rw [if_neg e, if_neg (fun z => e ⟨z.1, bone.mp z.2⟩)]
              have hP2 : (if q.1 = true ∧ b0 = true then p + q.2 else p) = P2 := by
                rw [← hP2]
                by_cases e : q.1 = true ∧ b0 = true
                · rw [if_pos e, if_pos ⟨e.1, bone.mpr e.2⟩]
                · rw [if_neg e, if_neg (fun z => e ⟨z.1, bone.mp z.2⟩)]
              have fin2 : ∀ w : Int32, nI p + w = nI P2 → X f_GM 442 [some (.ref 100), some (.int (nI b)), some (.int (nI x)), some (.int (nI f)), some (.int (nI t)), some (.int (nI c)), some (.int (nI (f_it y.2.2).length)), some (.int (nI (206 + 140 * a))), some (.int (nI 0)), some (.int (nI (206 + 140 * a + dn.length))), some (.int (f_rsE q)), some (.int (f_b b0)), u12, u13] [.int w, .int (nI p), .ref 100] (f_up M'.1 100 11 (nI H2), M'.2) := by
                intro w hw
                refine f_run_ok (stop := fun q => Nat.beq q 446) hX 20 _ _ _ _ _ ?_
                show X f_GM 446 [some (.ref 100), some (.int (nI b)), some (.int (nI x)), some (.int (nI f)), some (.int (nI t)), some (.int (nI c)), some (.int (nI (f_it y.2.2).length)), some (.int (nI (206 + 140 * a))), some (.int (nI 0)), some (.int (nI (206 + 140 * a + dn.length))), some (.int (f_rsE q)), some (.int (f_b b0)), u12, u13] [] (f_up (f_up M'.1 100 11 (nI H2)) 100 12 (nI p + w), M'.2)
                rw [hw]
                exact nx [] H2 P2 _ _ _ _ _ hstp hw3 (Nat.zero_le _) ((he.uf (k := 11) (by decide)).uf (k := 12) (by decide)) hby trivial rfl rfl
              have fin1 : ∀ w : Int32, nI h + w = nI H2 → X f_GM 410 [some (.ref 100), some (.int (nI b)), some (.int (nI x)), some (.int (nI f)), some (.int (nI t)), some (.int (nI c)), some (.int (nI (f_it y.2.2).length)), some (.int (nI (206 + 140 * a))), some (.int (nI 0)), some (.int (nI (206 + 140 * a + dn.length))), some (.int (f_rsE q)), some (.int (f_b b0)), u12, u13] [.int w, .int (nI h), .ref 100] M' := by
                intro w hw
                refine f_run_ok (stop := fun q => Nat.beq q 419) hX 20 _ _ _ _ _ ?_
                show X f_GM 419 [some (.ref 100), some (.int (nI b)), some (.int (nI x)), some (.int (nI f)), some (.int (nI t)), some (.int (nI c)), some (.int (nI (f_it y.2.2).length)), some (.int (nI (206 + 140 * a))), some (.int (nI 0)), some (.int (nI (206 + 140 * a + dn.length))), some (.int (f_rsE q)), some (.int (f_b b0)), u12, u13] [.int (M'.1 100 12), .ref 100] (f_up M'.1 100 11 (nI h + w), M'.2)
                rw [hw, h12]
                refine f_run_ok (stop := fun q => Nat.beq q 442) hX 40 _ _ _ _ _ ?_
                refine And.intro (fun z => ?_) (fun z => And.intro (fun z2 => ?_) (fun z2 => ?_))
                · have z := f_b0.mp z
                  exact fin2 0 (by rw [f_add0, ← hP2, if_neg (by rw [z]; exact fun e => absurd e.2 (by decide))])
                · have z2 : -200 < f_rsE q := z2
                  have hq : ¬ q.1 = true := fun e => Int32.not_lt.mpr (n4 e).1 z2
                  exact fin2 0 (by rw [f_add0, ← hP2, if_neg (fun e => hq e.1)])
                · have z := f_b_nt z
                  have z2 : ¬ -200 < f_rsE q := z2
                  have hq : q.1 = true := by
                    cases hq : q.1 with
                    | true => rfl
                    | false => exact absurd (Int32.not_lt.mp z2) (n5 hq).1
                  exact fin2 (-200 - f_rsE q) (by rw [(n4 hq).2, nI_add, ← hP2, if_pos ⟨hq, z⟩])
              refine f_run_ok (stop := fun q => Nat.beq q 383) hX 60 _ _ _ _ _ ?_
              refine And.intro (fun _ => ?_) (fun z => absurd n1 z)
              refine And.intro (fun z => absurd z n2) (fun _ => ?_)
              refine And.intro (fun _ => ?_) (fun z => absurd n3 z)
              refine And.intro (v64 0 (by decide)) ?_
              show X f_GM 383 [some (.ref 100), some (.int (nI b)), some (.int (nI x)), some (.int (nI f)), some (.int (nI t)), some (.int (nI c)), some (.int (nI (f_it y.2.2).length)), some (.int (nI (206 + 140 * a))), some (.int (nI 0)), some (.int (nI (206 + 140 * a + dn.length))), some (.int (f_rsE q)), some (.int (M'.1 104 0)), u12, u13] [] M'
              rw [show M'.1 104 0 = f_b b0 from hts.1]
              refine f_run_ok (stop := fun q => Nat.beq q 388) hX 60 _ _ _ _ _ ?_
              show X f_GM 388 [some (.ref 100), some (.int (nI b)), some (.int (nI x)), some (.int (nI f)), some (.int (nI t)), some (.int (nI c)), some (.int (nI (f_it y.2.2).length)), some (.int (nI (206 + 140 * a))), some (.int (nI 0)), some (.int (nI (206 + 140 * a + dn.length))), some (.int (f_rsE q)), some (.int (f_b b0)), u12, u13] [.int (M'.1 100 11), .ref 100] M'
              rw [h11]
              refine f_run_ok (stop := fun q => Nat.beq q 410) hX 60 _ _ _ _ _ ?_
              refine And.intro (fun z => ?_) (fun z => And.intro (fun z2 => ?_) (fun z2 => ?_))
              · have z := f_b0.mp z
                exact fin1 0 (by rw [f_add0, ← hH2, if_neg (by rw [z]; exact fun e => absurd e.2 (by decide))])
              · have z2 : f_rsE q ≤ -200 := z2
                have hq : ¬ q.1 = false := fun e => (n5 e).1 z2
                exact fin1 0 (by rw [f_add0, ← hH2, if_neg (fun e => hq e.1)])
              · have z := f_b_nt z
                have z2 : ¬ f_rsE q ≤ -200 := z2
                have hq : q.1 = false := by
                  cases hq : q.1 with
                  | false => rfl
                  | true => exact absurd (n4 hq).1 z2
                exact fin1 (-10 - f_rsE q) (by rw [(n5 hq).2, nI_add, ← hH2, if_pos ⟨hq, z⟩])
        have ea : 201 + M1.1 101 6 = nI (201 + a) := by rw [e101, h6]; exact nI_add 201 a
        obtain ⟨i1, i2⟩ := f_ix (n := 906) ea (by omega) (by omega)
        have eb : 206 + 140 * M1.1 101 6 = nI (206 + 140 * a) := by
          rw [e101, h6, show 140 * nI a = nI (140 * a) from pk_mul 140 a]
          exact nI_add 206 _
        have n6 : ¬ M1.1 101 6 = -1 := by rw [e101, h6]; exact f_n1 (by omega)
        refine f_run_ok (stop := fun q => Nat.beq q 133) hX 60 _ _ _ _ _ ?_
        refine And.intro (v9 6 (by decide)) (And.intro (fun z => absurd z n6) (fun _ => ?_))
        refine And.intro (v9 6 (by decide)) (And.intro i1 (And.intro (v9 6 (by decide)) ?_))
        have q := loop (f_it y.2.2) [] [] 0 0 M1 none none none none rfl hwf (Nat.zero_le _) hfold he1 hby1 trivial h11 h12
        have ec : M1.1 101 (201 + M1.1 101 6).toNatClampNeg = nI (f_it y.2.2).length := by rw [i2, e101]; exact g1
        show X f_GM 133 [some (.ref 100), some (.int (nI b)), some (.int (nI x)), some (.int (nI f)), some (.int (nI t)), some (.int (nI c)), some (.int (M1.1 101 (201 + M1.1 101 6).toNatClampNeg)), some (.int (206 + 140 * M1.1 101 6)), some (.int (nI 0)), some (.int (206 + 140 * M1.1 101 6)), none, none, none, none] [] M1
        rw [ec, eb]
        exact q
    have half : ∀ v : Int32, v = nI (min (x - f) (t - x)) → X f_GM 32 [some (.ref 100), some (.int (nI b)), some (.int (nI x)), some (.int (nI f)), some (.int (nI t)), some (.int (nI c)), none, none, none, none, none, none, none, none] [.int v, .int 1, .ref 103] (f_up M.1 103 0 (nI x), M.2) := by
      intro v hv
      obtain ⟨i1, i2⟩ := f_ix (n := 906) (show 9 + nI b = nI (9 + b) from nI_add 9 b) (by omega) (by omega)
      refine f_run_ok (stop := fun q => Nat.beq q 76) hX 60 _ _ _ _ _ ?_
      refine And.intro (v5 1 (by decide)) (And.intro (v5 2 (by decide)) (And.intro (v5 3 (by decide)) (And.intro i1 (And.intro (v5 4 (by decide)) ?_))))
      refine main _ (((((((f_em.rf.up (c := 103) (by decide)).up (c := 103) (by decide)).up (c := 103) (by decide)).up (c := 103) (by decide)).up (c := 103) (by decide)).uf (k := 11) (by decide)).uf (k := 12) (by decide)) (fun l hl => ?_) rfl rfl
      have : l = 0 ∨ l = 1 ∨ l = 2 ∨ l = 3 ∨ l = 4 := by omega
      rcases this with rfl | rfl | rfl | rfl | rfl
      · rfl
      · exact hv
      · show nI t - nI f = nI (t - f); exact pk_sub (by omega)
      · rfl
      · show M.1 101 (9 + nI b).toNatClampNeg = nI kd; rw [i2]; exact hkd
    refine f_run_ok (stop := fun q => Nat.beq q 32) hX 60 _ _ _ _ _ ?_
    refine And.intro (v5 0 (by decide)) (And.intro (fun h => ?_) (fun h => ?_))
    · have h : nI t - nI x ≤ nI x - nI f := h
      rw [pk_sub (by omega), pk_sub (by omega)] at h
      have h := (nI_leI (by omega) (by omega)).mp h
      exact half (nI t - nI x) (by rw [pk_sub (by omega), show min (x - f) (t - x) = t - x by omega])
    · have h : ¬ nI t - nI x ≤ nI x - nI f := h
      rw [pk_sub (by omega), pk_sub (by omega)] at h
      have h : ¬ t - x ≤ x - f := fun z => h (nI_le z (by omega))
      exact half (nI x - nI f) (by rw [pk_sub (by omega), show min (x - f) (t - x) = x - f by omega])
