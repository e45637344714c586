/-! ===== the reference: ends, breaksOn, sumBy, likely, mean ===== -/
def f_gq (L wh n S : Nat) : Nat := if wh = 9 then (f_shp L S).getD n 0 else if f_fit (f_shp L S) L wh n = true then 1 else 0
def S_en : fSp := fun G As M R => match As with
  | [.ref 100, .int z, .long w] => ∃ (y : fYd) (S q wh n A : Nat), G = f_GM ∧ f_HR 101 y M ∧ 1 ≤ y.1 ∧ y.1 ≤ 17 ∧ z = nI S ∧ S < 2 ^ 17 ∧ w = lN q ∧ M.1 100 19 = nI wh ∧ (wh < 7 ∨ wh = 9) ∧ M.1 100 20 = nI n ∧ n < 1000 ∧ M.2 100 21 = lN A ∧ (∀ M', f_em [105, 106, 109, 1017, 1021] M M' → M'.2 100 21 = lN (A + q * f_gq y.1 wh n S) → R G none M')
  | _ => False
set_option maxRecDepth 20000 in
theorem m_en : f_Meets 4 (kX12_ends S_so S_su) S_en := by
  intro G As M R hsp X hX hW
  match As, hsp with
  | [.ref 100, .int z, .long w], ⟨y, S, q, wh, n, A, hG, hH, hL1, hL17, hz, hS, hw, h19, hwh, h20, hn, h21, hsp⟩ =>
    subst hG; subst hz; subst hw
    have hne := f_shp_ne (L := y.1) (br := S) hL1
    have hsl : (f_shp y.1 S).length = (f_pc0 y.1 S).length := by
      show (f_srt _).length = _
      rw [f_srt_len, List.length_map]
      rfl
    refine f_run_ok (stop := fun q => Nat.beq q 5) hX 40 _ _ _ _ _ ?_
    refine ⟨y, S, rfl, hH, hL1, hL17, rfl, hS, fun M1 he1 hP hs => ?_⟩
    have hL : f_LS M1 (f_shp y.1 S) y := ⟨by rw [hsl]; exact hP.1, hne, by rw [hsl]; exact hP.2.1, hs, hH.cg (he1.1 101 (by decide) (by decide)), hL17⟩
    have k19 : M1.1 100 19 = nI wh := (he1.2.2.1 19 (by decide)).trans h19
    have k20 : M1.1 100 20 = nI n := (he1.2.2.1 20 (by decide)).trans h20
    have k21 : M1.2 100 21 = lN A := (he1.2.2.2 21 (by decide)).trans h21
    have k17 : M1.1 100 17 = nI (f_shp y.1 S).length := hL.1
    have hl17 : (f_shp y.1 S).length ≤ 17 := hL.2.2.1
    show X f_GM 5 [some (.ref 100), some (.int (nI S)), some (.long (lN q)), none] [] M1
    unfold f_gq at hsp
    generalize f_shp y.1 S = l at *
    have fin : ∀ z : Int64, z = lN (A + q * (if wh = 9 then l.getD n 0 else if f_fit l y.1 wh n = true then 1 else 0)) → R f_GM none (M1.1, f_upL M1.2 100 21 z) := fun z hz => hsp _ ((he1.mono (by decide)).ufL (k := 21) (by decide)) hz
    refine f_run_ok (stop := fun q => false) hX 60 _ _ _ _ _ ?_
    refine And.intro (fun h => ?_) (fun h => ?_)
    · have h : M1.1 100 19 = 9 := h
      rw [k19] at h
      have h := (nI_eq (b := 9) (by omega) (by omega)).mp h
      rw [if_pos h] at fin
      refine And.intro (fun h2 => ?_) (fun h2 => ?_)
      · have h2 : M1.1 100 17 ≤ M1.1 100 20 := h2
        rw [k17, k20] at h2
        have h2 := (nI_leI (by omega) (by omega)).mp h2
        refine fin (M1.2 100 21 + 0) ?_
        rw [List.getD_eq_getElem?_getD, List.getElem?_eq_none h2, k21]
        show lN A + lN 0 = lN (A + q * 0)
        rw [lN_add, Nat.mul_zero]
      · have h2 : ¬ M1.1 100 17 ≤ M1.1 100 20 := h2
        rw [k17, k20] at h2
        have h2 : ¬ l.length ≤ n := fun e => h2 (nI_le e (by omega))
        obtain ⟨i1, i2, i3⟩ := hL.at (i := n) (z := M1.1 100 20) (by omega) k20
        refine And.intro i1 (fin (M1.2 100 21 + lN q * (M1.1 109 (M1.1 100 20).toNatClampNeg).toInt64) ?_)
        rw [i2, f_wide (by omega), k21, lN_mul, lN_add]
    · have h : ¬ M1.1 100 19 = 9 := h
      rw [k19] at h
      have h9 : ¬ wh = 9 := fun e => h (by rw [e]; rfl)
      rw [if_neg h9] at fin
      refine ⟨l, y, wh, n, rfl, hL, k19, by omega, k20, hn, ?_⟩
      refine And.intro (fun h2 => ?_) (fun h2 => ?_)
      · have h2 := f_b0.mp h2
        refine fin (M1.2 100 21 + 0) ?_
        rw [if_neg (by rw [h2]; decide), k21]
        show lN A + lN 0 = lN (A + q * 0)
        rw [lN_add, Nat.mul_zero]
      · have h2 := f_b_nt h2
        refine fin (M1.2 100 21 + lN q) ?_
        rw [if_pos h2, k21, lN_add, Nat.mul_one]
def f_ew0 : Nat → Nat → Nat → Nat := fun k q n => q * (f_pO k / n)
def f_BKL : List Nat := [103, 104, 105, 106, 107, 108, 109, 1011, 1012, 1017, 1021]
def S_bk (d : Nat) : fSp := fun G As M R => match As with
  | [.ref 100, .int zb, .int zS, .int zk, .long zw] => ∃ (y : fYd) (b kd v : Nat) (row : Nat → Nat) (wh n S w k A : Nat), G = f_GM ∧ f_MB M y b kd v row ∧ y.2.1 ≤ 3 ∧ zb = nI b ∧ zS = nI S ∧ zk = nI k ∧ zw = lN w ∧ k + d = 3 ∧ k ≤ y.2.1 ∧ S < 2 ^ y.1 ∧ S.testBit 0 = false ∧ M.1 100 19 = nI wh ∧ (wh < 7 ∨ wh = 9) ∧ M.1 100 20 = nI n ∧ n < 1000 ∧ M.2 100 21 = lN A ∧ (∀ M', f_em f_BKL M M' → M'.2 100 21 = lN (A + f_gn f_ew0 (f_may y.2.2 y.1 kd v row) y.2.1 (f_gq y.1 wh n) (fun _ => 0) d S w k) → R G none M')
  | _ => False
set_option maxRecDepth 20000 in
theorem m_bk (d : Nat) (sp : fSp) (hs : ∀ e, d = e + 1 → sp = S_bk e) : f_Meets 10 (kX12_breaksOn S_cu S_en S_my S_pO S_cnt sp) (S_bk d) := by
  intro G As M R hsp X hX hW
  match As, hsp with
  | [.ref 100, .int zb, .int zS, .int zk, .long zw], ⟨y, b, kd, v, row, wh, n, S, w, k, A, hG, hMB, hc3, hzb, hzS, hzk, hzw, hkd, hkc, hS, hS0, h19, hwh, h20, hn, h21, hsp⟩ =>
    subst hG; subst hzb; subst hzS; subst hzk; subst hzw
    have h1L := hMB.2.2.2.1
    have h17 := hMB.2.2.2.2.1
    have hb := hMB.2.2.2.2.2.1
    have hS17 : S < 2 ^ 17 := Nat.lt_of_lt_of_le hS (Nat.pow_le_pow_right (by decide) h17)
    have hml : ∀ T, f_may y.2.2 y.1 kd v row T < 2 ^ 17 := fun T => f_may_lt h17
    have hmn : ∀ T x, (f_may y.2.2 y.1 kd v row T).testBit x = true → T.testBit x = false ∧ 1 ≤ x ∧ x < y.1 := fun T x => f_may_new
    have hH := hMB.1
    -- an end
    have kend : ∀ (pc u : Nat) (ls : List (Option Value)) (M1 : fMem), f_em f_LFL M M1 → (d = 0 ∨ k = y.2.1 ∨ f_may y.2.2 y.1 kd v row S = 0) → u = f_rsw y.2.1 3 k w → (∀ M2, R f_GM none M2 → X f_GM pc ls [] M2) → S_en f_GM [.ref 100, .int (nI S), .long (lN u)] M1 (fun G' v M' => X G' pc ls (f_ans v []) M') := by
      intro pc u ls M1 he1 hend hu K
      refine ⟨y, S, u, wh, n, A, rfl, hH.cg (he1.1 101 (by decide) (by decide)), h1L, h17, rfl, hS17, rfl, (he1.2.2.1 19 (by decide)).trans h19, hwh, (he1.2.2.1 20 (by decide)).trans h20, hn, (he1.2.2.2 21 (by decide)).trans h21, fun M2 he2 e2 => ?_⟩
      refine K M2 (hsp M2 ((he1.mono (by decide)).tr (he2.mono (by decide))) ?_)
      rw [e2, f_gn_at hend, hu]
    have step2 : ¬ k = y.2.1 → X f_GM 16 [some (.ref 100), some (.int (nI b)), some (.int (nI S)), some (.int (nI k)), some (.long (lN w)), none, none, none, none, none] [] M := by
      intro hne
      obtain ⟨e, rfl⟩ : ∃ e, d = e + 1 := ⟨d - 1, by omega⟩
      have hsp' := hs e rfl
      subst hsp'
      refine f_run_ok (stop := fun q => Nat.beq q 22) hX 20 _ _ _ _ _ ?_
      refine ⟨y, b, S, kd, v, row, rfl, hMB, rfl, rfl, hS, hS0, fun M1 he1 _ => ?_⟩
      have e101 : M1.1 101 = M.1 101 := he1.1 101 (by decide) (by decide)
      have hH1 := hH.cg e101
      have hMB1 := hMB.cg e101
      have hmS := hml S
      have hnS := hmn S
      show X f_GM 22 [some (.ref 100), some (.int (nI b)), some (.int (nI S)), some (.int (nI k)), some (.long (lN w)), none, none, none, none, none] [.int (nI (f_may y.2.2 y.1 kd v row S))] M1
      have hp17 : f_pc (f_may y.2.2 y.1 kd v row S) ≤ 17 := f_cnt_le _ 17
      refine f_run_ok (stop := fun q => Nat.beq q 36 || Nat.beq q 69) hX 20 _ _ _ _ _ ?_
      refine And.intro (fun z => ?_) (fun z => ?_)
      · have hm0 := (nI_eq (b := 0) (by omega) (by omega)).mp z
        have loop : ∀ (t j u : Nat), f_rsw y.2.1 t j u = f_rsw y.2.1 3 k w → y.2.1 ≤ j + t → j ≤ 3 → X f_GM 36 [some (.ref 100), some (.int (nI b)), some (.int (nI S)), some (.int (nI k)), some (.long (lN w)), none, some (.int (nI (f_may y.2.2 y.1 kd v row S))), some (.long (lN u)), none, some (.int (nI j))] [] M1 := by
          intro t
          induction t with
          | zero =>
            intro j u he hj hj3
            refine f_run_ok (stop := fun q => Nat.beq q 68) hX 40 _ _ _ _ _ ?_
            refine ⟨y, rfl, hH1, And.intro (fun _ => ?_) (fun z => absurd (nI_le (by omega) (by omega)) z)⟩
            exact kend 68 u _ M1 he1 (Or.inr (Or.inr hm0)) he (fun M2 h => f_run_ok (stop := fun _ => false) hX 10 _ _ _ _ _ h)
          | succ t ih =>
            intro j u he hj hj3
            have he : (if j < y.2.1 then f_rsw y.2.1 t (j + 1) (u * f_pO j) else u) = f_rsw y.2.1 3 k w := he
            by_cases hjc : j < y.2.1
            · rw [if_pos hjc] at he
              have q := ih (j + 1) (u * f_pO j) he (by omega) (by omega)
              rw [nI_succ j, ← lN_mul] at q
              refine f_run_ok (stop := fun q => Nat.beq q 36) hX 40 _ _ _ _ _ ?_
              refine ⟨y, rfl, hH1, And.intro (fun z => absurd ((nI_leI (by omega) (by omega)).mp z) (by omega)) (fun _ => ?_)⟩
              exact ⟨j, rfl, by omega, q⟩
            · rw [if_neg hjc] at he
              refine f_run_ok (stop := fun q => Nat.beq q 68) hX 40 _ _ _ _ _ ?_
              refine ⟨y, rfl, hH1, And.intro (fun _ => ?_) (fun z => absurd (nI_le (by omega) (by omega)) z)⟩
              exact kend 68 u _ M1 he1 (Or.inr (Or.inr hm0)) he (fun M2 h => f_run_ok (stop := fun _ => false) hX 10 _ _ _ _ _ h)
        exact loop 3 k w rfl (by omega) (by omega)
      · have hm0 : ¬ f_may y.2.2 y.1 kd v row S = 0 := fun q => z (by rw [q]; rfl)
        generalize hmay : f_may y.2.2 y.1 kd v row = may at *
        have hpp : 0 < f_pc (may S) := by
          have := f_pc_low (Nat.pos_of_ne_zero hm0) hmS; omega
        rw [f_gn_on (fun q => q.elim hne hm0), Nat.mul_zero, Nat.zero_add] at hsp
        have eew : f_ew0 k w (f_pc (may S)) = w * (f_pO k / f_pc (may S)) := rfl
        rw [eew] at hsp
        have ew : (nI (f_pc (may S))).toInt64 = lN (f_pc (may S)) := f_wide (by omega)
        have hpOb : f_pO k < 2 ^ 63 := by unfold f_pO; split <;> omega
        have ediv : lN (f_pO k) / (nI (f_pc (may S))).toInt64 = lN (f_pO k / f_pc (may S)) := by rw [ew, pk_lDiv hpOb hpp (by omega)]
        have emul : lN w * (lN (f_pO k) / (nI (f_pc (may S))).toInt64) = lN (w * (f_pO k / f_pc (may S))) := by rw [ediv, lN_mul]
        refine f_run_ok (stop := fun q => Nat.beq q 83) hX 40 _ _ _ _ _ ?_
        refine ⟨k, rfl, by omega, may S, rfl, hmS, ?_⟩
        refine And.intro (fun q => ?_) ?_
        · rw [ew] at q
          have := (pk_lEQ (b := 0) (by omega) (by omega)).mp q
          omega
        show X f_GM 83 [some (.ref 100), some (.int (nI b)), some (.int (nI S)), some (.int (nI k)), some (.long (lN w)), none, some (.int (nI (may S))), none, none, none] [.long (lN w * (lN (f_pO k) / (nI (f_pc (may S))).toInt64))] M1
        rw [emul]
        generalize w * (f_pO k / f_pc (may S)) = u at *
        generalize hF : (fun x => if (decide (1 ≤ x) && (may S).testBit x) = true then f_gn f_ew0 may y.2.1 (f_gq y.1 wh n) (fun _ => 0) e (S ||| 2 ^ x) u (k + 1) else 0) = F at *
        have hFx : ∀ x, F x = if (decide (1 ≤ x) && (may S).testBit x) = true then f_gn f_ew0 may y.2.1 (f_gq y.1 wh n) (fun _ => 0) e (S ||| 2 ^ x) u (k + 1) else 0 := fun x => by rw [← hF]
        have loop : ∀ (t j : Nat) (M2 : fMem), j + t = 17 → 1 ≤ j → f_em f_BKL M M2 → M2.2 100 21 = lN (A + f_sm j F) → X f_GM 88 [some (.ref 100), some (.int (nI b)), some (.int (nI S)), some (.int (nI k)), some (.long (lN w)), none, some (.int (nI (may S))), some (.long (lN u)), none, some (.int (nI j))] [] M2 := by
          intro t
          induction t with
          | zero =>
            intro j M2 hj hj1 he2 k21
            have hj : j = 17 := by omega
            subst hj
            refine f_run_ok (stop := fun q => false) hX 20 _ _ _ _ _ ?_
            exact And.intro (fun _ => hsp M2 he2 k21) (fun z => absurd (show (17 : Int32) ≤ nI 17 by decide) z)
          | succ t ih =>
            intro j M2 hj hj1 he2 k21
            have eb := n_sb (n := may S) (k := j) (by omega) (by omega)
            have hst : f_sm (j + 1) F = f_sm j F + F j := rfl
            have hFj := hFx j
            rw [decide_eq_true hj1, Bool.true_and] at hFj
            have e2 : M2.1 101 = M.1 101 := he2.1 101 (by decide) (by decide)
            refine f_run_ok (stop := fun q => Nat.beq q 88) hX 60 _ _ _ _ _ ?_
            refine And.intro (fun z => absurd ((nI_leI (a := 17) (by omega) (by omega)).mp z) (by omega)) (fun _ => ?_)
            refine And.intro (fun z => ?_) (fun z => ?_)
            · have z : nI (may S) >>> (nI j &&& 31) &&& 1 = 1 := z
              rw [eb] at z
              have z := f_b1.mp z
              rw [if_pos z] at hFj
              obtain ⟨zs, j1, jL⟩ := hnS j z
              refine ⟨y, b, kd, v, row, wh, n, S ||| 2 ^ j, u, k + 1, A + f_sm j F, rfl, hMB.cg e2, hc3, rfl, n_orbit (by omega), (nI_succ k).symm, rfl, by omega, by omega, n_or_lt hS (Nat.pow_lt_pow_right (by decide) jL), ?_, (he2.2.2.1 19 (by decide)).trans h19, hwh, (he2.2.2.1 20 (by decide)).trans h20, hn, k21, fun M3 he3 m21 => ?_⟩
              · rw [Nat.testBit_or, hS0, Nat.testBit_two_pow]; simp; omega
              · rw [hmay, ← hFj] at m21
                have q := ih (j + 1) M3 (by omega) (by omega) (he2.tr he3) (by rw [m21, hst, Nat.add_assoc])
                rw [nI_succ j] at q
                exact q
            · have z : ¬ nI (may S) >>> (nI j &&& 31) &&& 1 = 1 := z
              rw [eb] at z
              have z : ¬ (may S).testBit j = true := fun e => z (by rw [e]; rfl)
              rw [if_neg z] at hFj
              have q := ih (j + 1) M2 (by omega) (by omega) he2 (by rw [hst, hFj]; exact k21)
              rw [nI_succ j] at q
              exact q
        refine f_run_ok (stop := fun q => Nat.beq q 88) hX 20 _ _ _ _ _ ?_
        have h0 : f_sm 1 F = 0 := by
          show 0 + F 0 = 0
          rw [hFx 0]
          rfl
        exact loop 16 1 M1 rfl (Nat.le_refl 1) (he1.mono (by decide)) (by rw [h0]; exact (he1.2.2.2 21 (by decide)).trans h21)
    refine f_run_ok (stop := fun q => Nat.beq q 15 || Nat.beq q 16) hX 40 _ _ _ _ _ ?_
    refine ⟨y, rfl, hH, And.intro (fun z => ?_) (fun z => ?_)⟩
    · have z := (nI_eq (by omega) (by omega)).mp z
      have hr : w = f_rsw y.2.1 3 k w := by
        show w = (if k < y.2.1 then _ else w)
        rw [if_neg (by omega)]
      exact kend 15 w _ M f_em.rf (Or.inr (Or.inl z)) hr (fun M2 h => f_run_ok (stop := fun _ => false) hX 10 _ _ _ _ _ h)
    · exact step2 (fun e => z (by rw [e]))
