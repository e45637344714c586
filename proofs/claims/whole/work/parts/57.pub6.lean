/-! ===== public methods: lost, who, likeliest ===== -/
theorem f_pos_nI {m : Nat} (h : m < 2 ^ 31) : nI m ≤ 0 ↔ m = 0 := by
  have := nI_leI (a := m) (b := 0) h (by omega)
  constructor
  · intro z; have := this.mp z; omega
  · intro z; exact this.mpr (by omega)
set_option maxRecDepth 20000 in
theorem m_x_lost : f_Meets 5 (kX11_lost S_isB S_sumOf S_lgr S_fol) (f_x1 p_lost) := by
  intro G As M R hsp X hX hW
  match As, hsp with
  | [.ref 0, .int b], ⟨s, hG, hS, hR, hsp⟩ =>
    subst hG
    unfold p_lost at hsp
    have hsn := hS.sn
    have hL17 := hS.L17
    refine f_run_ok (stop := fun q => Nat.beq q 10) hX 40 _ _ _ _ _ ?_
    refine ⟨rfl, ?_⟩
    rw [f_ng_b hR]
    cases hb : f_ng b s with
    | false =>
      rw [if_pos hb] at hsp
      exact And.intro (fun _ => hsp M hR) (fun z => absurd rfl z)
    | true =>
      rw [if_neg (by rw [hb]; decide)] at hsp
      obtain ⟨b1, b2, b3⟩ := f_ng_t hS hb
      refine And.intro (fun z => absurd z (by decide)) (fun _ => ?_)
      generalize f_n b = B at *
      subst b3
      have hsm : f_sum (4, M.1 12) (M.1 1 12).toInt.toNat = nI (f_sm (s.1.1 0 5) (s.1.1 6)) := by
        rw [hR.sn, nI_toInt (by omega)]
        exact f_sum_nI (t := (4, M.1 12)) (by show s.1.1 0 5 ≤ 4; omega) (by show 4 < 2 ^ 31; omega) (fun i hi => hR.si i (by omega))
      have hle : f_sm (s.1.1 0 5) (s.1.1 6) ≤ 4 * 17 := Nat.le_trans (f_sm_le (b := 17) (s.1.1 0 5) (fun x hx => (hS.si x hx).2)) (Nat.mul_le_mul_right _ hsn)
      refine f_run_ok (stop := fun q => Nat.beq q 39) hX 40 _ _ _ _ _ ?_
      show X f_GX 39 [some (.ref 0), some (.int (nI B)), some (.int (M.1 5 0 - f_sum (4, M.1 12) (M.1 1 12).toInt.toNat)), none, none] [] M
      rw [hsm, hR.ln]
      by_cases hbad : s.1.2.2.1 ≤ f_sm (s.1.1 0 5) (s.1.1 6) ∨ 4 ≤ s.1.1 0 5
      · rw [if_pos hbad] at hsp
        have no : X f_GX 54 [some (.ref 0), some (.int (nI B)), some (.int (nI s.1.2.2.1 - nI (f_sm (s.1.1 0 5) (s.1.1 6)))), none, none] [] M := f_run_ok (stop := fun _ => false) hX 10 _ _ _ _ _ (hsp M hR)
        refine f_run_ok (stop := fun q => Nat.beq q 54 || Nat.beq q 56) hX 40 _ _ _ _ _ ?_
        refine And.intro (fun _ => no) (fun h => And.intro (fun h2 => ?_) (fun _ => no))
        have h2 : M.1 1 12 < 4 := h2
        rw [hR.sn] at h2
        have h2 := (nI_ltI (b := 4) (by omega) (by omega)).mp h2
        exfalso
        apply h
        show nI s.1.2.2.1 - nI (f_sm (s.1.1 0 5) (s.1.1 6)) ≤ 0
        rw [Int32.le_iff_toInt_le, pk_sub_toInt (by omega) (by omega), Int32.toInt_zero]
        omega
      · rw [if_neg hbad] at hsp
        have hlt : f_sm (s.1.1 0 5) (s.1.1 6) < s.1.2.2.1 := by omega
        have hn4 : s.1.1 0 5 < 4 := by omega
        rw [pk_sub (by omega)]
        unfold f_lst at hsp
        obtain ⟨lack, hlk⟩ : ∃ k, s.1.2.2.1 - f_sm (s.1.1 0 5) (s.1.1 6) = k := ⟨_, rfl⟩
        rw [hlk] at hsp ⊢
        generalize hP : (fun p => decide (0 < (f_fol (f_mb s.1 B) s.1.2.2.1 s.1.2.2.2.1 (f_insr (s.1.1 6) p lack) (s.1.1 0 5 + 1)).1)) = P at hsp
        have hPx : ∀ p, P p = decide (0 < (f_fol (f_mb s.1 B) s.1.2.2.1 s.1.2.2.2.1 (f_insr (s.1.1 6) p lack) (s.1.1 0 5 + 1)).1) := fun p => by rw [← hP]
        refine f_run_ok (stop := fun q => Nat.beq q 54 || Nat.beq q 56) hX 40 _ _ _ _ _ ?_
        refine And.intro (fun h => ?_) (fun _ => And.intro (fun _ => ?_) (fun h2 => ?_))
        · have := (f_pos_nI (by omega)).mp h
          omega
        · have loop : ∀ (t j : Nat) (M1 : fMem), j + t = s.1.1 0 5 + 1 → f_RX s M1 → X f_GX 61 [some (.ref 0), some (.int (nI B)), some (.int (nI lack)), some (.int (nI (f_bits j P))), some (.int (nI j))] [] M1 := by
            intro t
            induction t with
            | zero =>
              intro j M1 hj r1
              refine f_run_ok (stop := fun q => false) hX 40 _ _ _ _ _ ?_
              refine And.intro (fun h => ?_) (fun h => ?_)
              · exact f_fin (hsp M1 r1) (by rw [show j = s.1.1 0 5 + 1 by omega]; rfl) rfl
              · have h : ¬ M1.1 1 12 < nI j := h
                rw [r1.sn] at h
                exact absurd (nI_lt (by omega) (by omega)) h
            | succ t ih =>
              intro j M1 hj r1
              have hb32 : f_bits j P < 2 ^ 17 := Nat.lt_of_lt_of_le (f_bits_lt P j) (Nat.pow_le_pow_right (by decide) (by omega))
              refine f_run_ok (stop := fun q => Nat.beq q 88) hX 40 _ _ _ _ _ ?_
              refine And.intro (fun h => ?_) (fun _ => ?_)
              · have h : M1.1 1 12 < nI j := h
                rw [r1.sn] at h
                exact absurd ((nI_ltI (by omega) (by omega)).mp h) (by omega)
              · refine ⟨j, rfl, rfl, by omega, fun M2 he2 h2 => ?_⟩
                have r2 := r1.scr he2 (by decide)
                refine f_run_ok (stop := fun q => Nat.beq q 100) hX 40 _ _ _ _ _ ?_
                have ec : f_fol (f_mb s.1 B) s.1.2.2.1 s.1.2.2.2.1 (fun i => if i < s.1.1 0 5 + 1 then f_insr (s.1.1 6) j lack i else 1) (s.1.1 0 5 + 1) = f_fol (f_mb s.1 B) s.1.2.2.1 s.1.2.2.2.1 (f_insr (s.1.1 6) j lack) (s.1.1 0 5 + 1) := f_fol_cg (fun i hi => if_pos hi)
                refine ⟨s.1.2.2.2.2, s.1.2.2.1, B, _, _, _, s.1.2.2.2.1, s.1.1 0 5 + 1, fun i => if i < s.1.1 0 5 + 1 then f_insr (s.1.1 6) j lack i else 1, rfl, Or.inr rfl, rfl, ?_, by omega, r2.yh hS, r2.bkr hS b2, r2.ct, hS.c3, fun i hi => ?_, fun i => ?_, fun M3 he3 h5 _ _ => ?_⟩
                · show M2.1 1 12 + 1 = _
                  rw [r2.sn, nI_succ]
                · show M2.1 45 i = nI (if i < s.1.1 0 5 + 1 then f_insr (s.1.1 6) j lack i else 1)
                  rw [if_pos hi, h2 i (by omega)]
                  unfold f_insr
                  split
                  · exact r1.si i (by omega)
                  · split
                    · rfl
                    · exact r1.si (i - 1) (by omega)
                · show 1 ≤ (if i < s.1.1 0 5 + 1 then f_insr (s.1.1 6) j lack i else 1) ∧ (if i < s.1.1 0 5 + 1 then f_insr (s.1.1 6) j lack i else 1) ≤ 17
                  split
                  · rename_i hi
                    unfold f_insr
                    split
                    · exact hS.si i (by omega)
                    · split
                      · omega
                      · exact hS.si (i - 1) (by omega)
                  · omega
                · have r3 := r2.scr he3 (by decide)
                  have h5 : M3.1 44 5 = nI (f_fol (f_mb s.1 B) s.1.2.2.1 s.1.2.2.2.1 (fun i => if i < s.1.1 0 5 + 1 then f_insr (s.1.1 6) j lack i else 1) (s.1.1 0 5 + 1)).1 := h5
                  rw [ec] at h5
                  have hfl := (f_fol_le (f_mb s.1 B) s.1.2.2.1 s.1.2.2.2.1 (f_insr (s.1.1 6) j lack) (s.1.1 0 5 + 1)).1
                  have q := ih (j + 1) M3 (by omega) r3
                  refine f_run_ok (stop := fun q => Nat.beq q 61) hX 40 _ _ _ _ _ ?_
                  refine And.intro (fun h => ?_) (fun h => ?_)
                  · have h : M3.1 44 5 ≤ 0 := h
                    rw [h5] at h
                    have h := (f_pos_nI (by omega)).mp h
                    rw [f_bits_no P j (by rw [hPx, h]; rfl), nI_succ] at q
                    exact q
                  · have h : ¬ M3.1 44 5 ≤ 0 := h
                    rw [h5] at h
                    have h : ¬ (f_fol (f_mb s.1 B) s.1.2.2.1 s.1.2.2.2.1 (f_insr (s.1.1 6) j lack) (s.1.1 0 5 + 1)).1 = 0 := fun z => h ((f_pos_nI (by omega)).mpr z)
                    rw [f_bits_or P j (by rw [hPx]; exact decide_eq_true (by omega)), nI_succ, ← n_orbit (by omega)] at q
                    exact q
          refine f_run_ok (stop := fun q => Nat.beq q 61) hX 40 _ _ _ _ _ ?_
          exact loop (s.1.1 0 5 + 1) 0 M (by omega) hR
        · have h2 : ¬ M.1 1 12 < 4 := h2
          rw [hR.sn] at h2
          exact absurd (nI_lt (b := 4) hn4 (by omega)) h2
set_option maxRecDepth 20000 in
theorem m_x_who : f_Meets 3 (kX11_who S_fol) (f_x0 p_who) := by
  intro G As M R hsp X hX hW
  match As, hsp with
  | [.ref 0], ⟨s, hG, hS, hR, hsp⟩ =>
    subst hG
    unfold p_who at hsp
    have hnb := hS.nb
    generalize hP : (fun b => decide (0 < (f_flw s.1 b).1)) = P at hsp
    have hPx : ∀ p, P p = decide (0 < (f_flw s.1 p).1) := fun p => by rw [← hP]
    have loop : ∀ (t j : Nat) (M1 : fMem), j + t = s.1.1 0 0 → f_RX s M1 → X f_GX 4 [some (.ref 0), some (.int (nI (f_bits j P))), some (.int (nI j))] [] M1 := by
      intro t
      induction t with
      | zero =>
        intro j M1 hj r1
        refine f_run_ok (stop := fun q => false) hX 40 _ _ _ _ _ ?_
        refine And.intro (fun h => ?_) (fun h => ?_)
        · exact f_fin (hsp M1 r1) (by rw [show j = s.1.1 0 0 by omega]; rfl) rfl
        · have h : ¬ M1.1 1 0 ≤ nI j := h
          rw [r1.nb] at h
          exact absurd (nI_le (by omega) (by omega)) h
      | succ t ih =>
        intro j M1 hj r1
        have hb32 : f_bits j P < 2 ^ 17 := Nat.lt_of_lt_of_le (f_bits_lt P j) (Nat.pow_le_pow_right (by decide) (by omega))
        refine f_run_ok (stop := fun q => Nat.beq q 37) hX 40 _ _ _ _ _ ?_
        refine And.intro (fun h => ?_) (fun _ => ?_)
        · have h : M1.1 1 0 ≤ nI j := h
          rw [r1.nb] at h
          exact absurd ((nI_leI (by omega) (by omega)).mp h) (by omega)
        · obtain ⟨c1, c2, c3, c4, c5, c6, c7, c8, c9, c10, c11, c12, c13, c14, c15, c16, c17, c18, c19, c20, c21⟩ := r1.fol (R := fun G' v M' => X G' 37 [some (.ref 0), some (.int (nI (f_bits j P))), some (.int (nI j))] (f_ans v []) M') hS (b := j) (by omega) (fun M3 r3 h5 _ _ => by
            have hfl : (f_flw s.1 j).1 ≤ 4913 := (f_fol_le (f_mb s.1 j) s.1.2.2.1 s.1.2.2.2.1 (s.1.1 6) (s.1.1 0 5)).1
            have q := ih (j + 1) M3 (by omega) r3
            refine f_run_ok (stop := fun q => Nat.beq q 4) hX 40 _ _ _ _ _ ?_
            refine And.intro (fun h => ?_) (fun h => ?_)
            · have h : M3.1 44 5 ≤ 0 := h
              rw [h5] at h
              have h := (f_pos_nI (by omega)).mp h
              rw [f_bits_no P j (by rw [hPx, h]; rfl), nI_succ] at q
              exact q
            · have h : ¬ M3.1 44 5 ≤ 0 := h
              rw [h5] at h
              have h : ¬ (f_flw s.1 j).1 = 0 := fun z => h ((f_pos_nI (by omega)).mpr z)
              rw [f_bits_or P j (by rw [hPx]; exact decide_eq_true (by omega)), nI_succ, ← n_orbit (by omega)] at q
              exact q)
          exact ⟨c1, c2, c3, c4, c5, c6, c7, c8, c9, c10, c11, c12, c13, c14, c15, c16, c17, c18, c19, c20, c21⟩
    refine f_run_ok (stop := fun q => Nat.beq q 4) hX 40 _ _ _ _ _ ?_
    exact loop (s.1.1 0 0) 0 M (by omega) hR
theorem f_lcmp2 {a b : Nat} (ha : a < 2 ^ 63) (hb : b < 2 ^ 63) : lg_cmp (lN a) (lN b) ≤ 0 ↔ a ≤ b := by
  unfold lg_cmp
  by_cases h0 : b < a
  · have h1 : lN a > lN b := (pk_lLT hb ha).mpr h0
    rw [if_pos h1]
    exact Iff.intro (fun z => absurd z (by decide)) (fun z => by omega)
  · have h1 : ¬ lN a > lN b := fun z => h0 ((pk_lLT hb ha).mp z)
    rw [if_neg h1]
    refine Iff.intro (fun _ => by omega) (fun _ => ?_)
    split <;> decide
theorem f_cwt_lt (c : fCo) (b : Nat) : f_cwt c b < 2 ^ 63 := by
  have hl : (f_flw c b).2 ≤ f_tot (f_mb c b) := (f_fol_le (f_mb c b) c.2.2.1 c.2.2.2.1 (c.1 6) (c.1 0 5)).2
  have e : f_tot (f_mb c b) = f_U * f_fw c b := rfl
  have h1 : f_cwt c b ≤ f_U * f_fw c b * (720720 / f_fw c b) := by
    unfold f_cwt
    rw [← e]
    exact Nat.mul_le_mul_right _ hl
  have h2 : f_fw c b * (720720 / f_fw c b) ≤ 720720 := Nat.mul_div_le _ _
  rw [Nat.mul_assoc] at h1
  have h3 : f_U * (f_fw c b * (720720 / f_fw c b)) ≤ f_U * 720720 := Nat.mul_le_mul_left _ h2
  unfold f_U at *
  omega
set_option maxRecDepth 20000 in
theorem m_x_likeliest : f_Meets 7 (kX11_likeliest S_fol S_cw) (f_x0 p_likeliest) := by
  intro G As M R hsp X hX hW
  match As, hsp with
  | [.ref 0], ⟨s, hG, hS, hR, hsp⟩ =>
    subst hG
    unfold p_likeliest at hsp
    have hnb := hS.nb
    have hw := f_cwt_lt s.1
    have hl1 : ∀ n, (f_lkl (f_cwt s.1) n).1 < 2 ^ 63 := by
      intro n
      induction n with
      | zero => show 0 < 2 ^ 63; omega
      | succ n ih =>
        unfold f_lkl
        split
        · exact hw n
        · exact ih
    have loop : ∀ (t j : Nat) (M1 : fMem) (u : Option Value), j + t = s.1.1 0 0 → f_RX s M1 → X f_GX 8 [some (.ref 0), some (.int (f_lkl (f_cwt s.1) j).2), some (.long (lN (f_lkl (f_cwt s.1) j).1)), none, some (.int (nI j)), u, none] [] M1 := by
      intro t
      induction t with
      | zero =>
        intro j M1 u hj r1
        refine f_run_ok (stop := fun q => false) hX 40 _ _ _ _ _ ?_
        refine And.intro (fun h => ?_) (fun h => ?_)
        · exact f_fin (hsp M1 r1) (by rw [show j = s.1.1 0 0 by omega]; rfl) rfl
        · have h : ¬ M1.1 1 0 ≤ nI j := h
          rw [r1.nb] at h
          exact absurd (nI_le (by omega) (by omega)) h
      | succ t ih =>
        intro j M1 u hj r1
        refine f_run_ok (stop := fun q => Nat.beq q 43) hX 40 _ _ _ _ _ ?_
        refine And.intro (fun h => ?_) (fun _ => ?_)
        · have h : M1.1 1 0 ≤ nI j := h
          rw [r1.nb] at h
          exact absurd ((nI_leI (by omega) (by omega)).mp h) (by omega)
        · obtain ⟨c1, c2, c3, c4, c5, c6, c7, c8, c9, c10, c11, c12, c13, c14, c15, c16, c17, c18, c19, c20, c21⟩ := r1.fol (R := fun G' v M' => X G' 43 [some (.ref 0), some (.int (f_lkl (f_cwt s.1) j).2), some (.long (lN (f_lkl (f_cwt s.1) j).1)), none, some (.int (nI j)), u, none] (f_ans v []) M') hS (b := j) (by omega) (fun M3 r3 _ h6 h7 => by
            have hpc : f_pc (f_mb s.1 j 0) ≤ 17 := f_cnt_le _ 17
            have hfw : 1 ≤ f_fw s.1 j ∧ f_fw s.1 j ≤ 17 := by unfold f_fw; omega
            have q := ih (j + 1) M3 (some (.long (lN (f_cwt s.1 j)))) (by omega) r3
            have hlj := hl1 j
            have hwj := hw j
            have est : f_lkl (f_cwt s.1) (j + 1) = if (f_lkl (f_cwt s.1) j).1 < f_cwt s.1 j then (f_cwt s.1 j, nI j) else f_lkl (f_cwt s.1) j := rfl
            rw [est, nI_succ] at q
            refine f_run_ok (stop := fun q => Nat.beq q 8) hX 40 _ _ _ _ _ ?_
            refine ⟨f_fw s.1 j, (f_flw s.1 j).2, rfl, h7, hfw.1, hfw.2, h6, ?_⟩
            refine And.intro (fun h => ?_) (fun h => ?_)
            · have h : lg_cmp (lN (f_cwt s.1 j)) (lN (f_lkl (f_cwt s.1) j).1) ≤ 0 := h
              have h := (f_lcmp2 hwj hlj).mp h
              rw [if_neg (by omega)] at q
              exact q
            · have h : ¬ lg_cmp (lN (f_cwt s.1 j)) (lN (f_lkl (f_cwt s.1) j).1) ≤ 0 := h
              have h : ¬ f_cwt s.1 j ≤ (f_lkl (f_cwt s.1) j).1 := fun z => h ((f_lcmp2 hwj hlj).mpr z)
              rw [if_pos (by omega)] at q
              exact q)
          exact ⟨c1, c2, c3, c4, c5, c6, c7, c8, c9, c10, c11, c12, c13, c14, c15, c16, c17, c18, c19, c20, c21⟩
    refine f_run_ok (stop := fun q => Nat.beq q 8) hX 40 _ _ _ _ _ ?_
    exact loop (s.1.1 0 0) 0 M none (by omega) hR
