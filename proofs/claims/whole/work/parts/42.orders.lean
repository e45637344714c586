/-! ===== lengths of ends ===== -/
def S_lens : fSp := fun G As M R => match As with
  | [.ref 41, .int zk] => ∃ (L k : Nat) (w : Nat → Nat), G = f_GX ∧ zk = nI k ∧ k < 1000 ∧ M.1 5 0 = nI L ∧ 1 ≤ L ∧ L ≤ 17 ∧ f_SE M ∧ f_WT M w ∧ (∀ i, i < 697 → w i < 2 ^ 63) ∧ (∀ M', f_ex [39, 40] [] M M' → R G (some (.long (lN (f_wsum w (fun S => (f_shp L S).getD k 0) 697)))) M')
  | _ => False
theorem f_SH.getlt {M : fMem} {l : List Nat} {T : Nat} (h : f_SH M l T) (k : Nat) : l.getD k 0 < 2 ^ 31 := by
  by_cases hk : k < l.length
  · have := h.get hk; omega
  · rw [List.getD_eq_getElem?_getD, List.getElem?_eq_none (by omega)]; decide
set_option maxRecDepth 20000 in
theorem m_lens : f_Meets 7 (kX2_lengthsAt S_longAt S_at S_lay S_lat) S_lens := by
  intro G As M R hsp X hX hW
  match As, hsp with
  | [.ref 41, .int zk], ⟨L, k, w, hG, hzk, hk, hL, hL1, hL17, hSE, hw, hwb, hsp⟩ =>
    subst hG; subst hzk
    generalize hg : (fun S => (f_shp L S).getD k 0) = g at hsp
    have loop : ∀ (d j : Nat) (M' : fMem) (u : Option Value), d + j = 697 → f_ex [39, 40] [] M M' → X f_GX 5 [some (.ref 41), some (.int (nI k)), some (.long (lN (f_wsum w g j))), none, some (.int (nI j)), u, none] [] M' := by
      intro d
      induction d with
      | zero =>
        intro j M' u hd he
        have hd : j = 697 := by omega
        subst hd
        refine f_run_ok (stop := fun q => false) hX 30 _ _ _ _ _ ?_
        exact And.intro (fun h => hsp M' he) (fun h => absurd ((nI_leI (a := 697) (b := 697) (by omega) (by omega)).mpr (by omega)) h)
      | succ d ih =>
        intro j M' u hd he
        have hwj : M'.2 43 j = lN (w j) := by rw [he.2 43 (by decide)]; exact hw j (by omega)
        have hset : M'.1 42 j = nI (f_set j) := by rw [he.1 42 (by decide)]; exact hSE j (by omega)
        have ha : f_atL 697 (M'.2 43) (nI j) = lN (w j) := by rw [f_atL_in (by omega) (by decide), hwj]
        have hb : f_at (697, M'.1 42) (nI j) = nI (f_set j) := by rw [f_at_in (t := (697, M'.1 42)) (by show j < 697; omega) (by show 697 < 2 ^ 31; decide)]; exact hset
        have hso := f_set_ok (i := j) (by omega)
        refine f_run_ok (stop := fun q => Nat.beq q 5) hX 90 _ _ _ _ _ ?_
        refine And.intro (fun h => absurd ((nI_leI (a := 697) (b := j) (by omega) (by omega)).mp h) (by omega)) (fun h => ?_)
        refine And.intro (fun h2 => ?_) (fun h2 => ?_)
        · have h2 : lg_cmp (f_atL 697 (M'.2 43) (nI j)) 0 ≤ 0 := h2
          rw [ha] at h2
          have h2 := (f_lcmp (hwb j (by omega))).mp h2
          have q := ih (j + 1) M' (some (.long (f_atL 697 (M'.2 43) (nI j)))) (by omega) he
          rw [nI_succ, show f_wsum w g (j + 1) = f_wsum w g j by show _ + _ = _; rw [if_pos h2]; rfl] at q
          exact q
        · have h2 : ¬ lg_cmp (f_atL 697 (M'.2 43) (nI j)) 0 ≤ 0 := h2
          rw [ha] at h2
          have h2 : ¬ w j = 0 := fun z => h2 ((f_lcmp (hwb j (by omega))).mpr z)
          have hLe : M'.1 5 0 = nI L := by rw [he.1 5 (by decide)]; exact hL
          refine ⟨f_set j, L, rfl, hb, hso.1.1, hLe, hL1, hL17, fun M2 he2 hS2 => ?_⟩
          refine ⟨f_shp L (f_set j), L, k, rfl, rfl, hk, hS2, ?_⟩
          have hlt := hS2.getlt k
          have hgj : g (f_set j) = (f_shp L (f_set j)).getD k 0 := by rw [← hg]
          have q := ih (j + 1) M2 (some (.long (f_atL 697 (M'.2 43) (nI j)))) (by omega) (he.tr he2)
          rw [nI_succ, show f_wsum w g (j + 1) = f_wsum w g j + w j * (f_shp L (f_set j)).getD k 0 by show _ + _ = _; rw [if_neg h2, hgj], ← lN_add, ← lN_mul, ← ha, ← f_wide hlt] at q
          exact q
    refine f_run_ok (stop := fun q => Nat.beq q 5) hX 10 _ _ _ _ _ ?_
    exact loop 697 0 M none rfl f_ex.rf
/-! ===== Orders: breakOn ===== -/
def f_acc (P : Nat → Bool) (g : Nat → Nat × Nat) : Nat → Nat × Nat
  | 0 => (0, 0)
  | n + 1 => if (decide (1 ≤ n) && P n) = true then ((f_acc P g n).1 + (g n).1, (f_acc P g n).2 + (g n).2) else f_acc P g n
def f_bo (may : Nat → Nat) (W c : Nat) : Nat → Nat → Nat → Nat → Nat × Nat
  | 0, S, q, k => if S = W then (if k = c ∨ f_pc (may S) = 0 then (1, q) else (0, 0)) else (0, 0)
  | d + 1, S, q, k => if S = W then (if k = c ∨ f_pc (may S) = 0 then (1, q) else (0, 0)) else if f_pc (may S) = 0 then (0, 0) else f_acc (fun x => (may S &&& W).testBit x) (fun x => f_bo may W c d (S ||| 2 ^ x) (q / f_pc (may S)) (k + 1)) 17
theorem f_bo_at (may : Nat → Nat) (W c d S q k : Nat) (h : S = W) : f_bo may W c d S q k = if k = c ∨ f_pc (may S) = 0 then (1, q) else (0, 0) := by
  cases d <;> (unfold f_bo; rw [if_pos h])
theorem f_bo_no (may : Nat → Nat) (W c d S q k : Nat) (h : ¬ S = W) (h2 : d = 0 ∨ f_pc (may S) = 0) : f_bo may W c d S q k = (0, 0) := by
  cases d with
  | zero => unfold f_bo; rw [if_neg h]
  | succ d => unfold f_bo; rw [if_neg h, if_pos (by omega)]
def f_CO : List Nat := [44, 33, 34, 35, 36, 37, 38]
def f_o4 (M M' : fMem) : Prop := f_ex f_CO [44] M M' ∧ M'.1 44 3 = M.1 44 3 ∧ M'.1 44 4 = M.1 44 4 ∧ M'.1 44 7 = M.1 44 7
theorem f_o4.rf {M : fMem} : f_o4 M M := ⟨f_ex.rf, rfl, rfl, rfl⟩
theorem f_o4.tr {M M1 M2 : fMem} (h1 : f_o4 M M1) (h2 : f_o4 M1 M2) : f_o4 M M2 := ⟨h1.1.tr h2.1, h2.2.1.trans h1.2.1, h2.2.2.1.trans h1.2.2.1, h2.2.2.2.trans h1.2.2.2⟩
theorem f_o4.of {M M1 : fMem} (h : f_ex f_CS [] M M1) : f_o4 M M1 := ⟨h.mono (by decide) (by simp), by rw [h.1 44 (by decide)], by rw [h.1 44 (by decide)], by rw [h.1 44 (by decide)]⟩
def S_bo (d : Nat) : fSp := fun G As M R => match As with
  | [.ref 44, .int zS, .long zq, .int zk] => ∃ (rs : List fRl) (L b kd v : Nat) (row : Nat → Nat) (c W S q k F A : Nat), G = f_GX ∧ zS = nI S ∧ S < 2 ^ 17 ∧ zq = lN q ∧ q < 2 ^ 63 ∧ zk = nI k ∧ k + d = 3 ∧ f_YH M L rs ∧ f_BK M b kd v row ∧ M.1 5 1 = nI c ∧ c ≤ 3 ∧ M.1 44 3 = nI b ∧ M.1 44 4 = nI W ∧ W < 2 ^ 17 ∧ M.1 44 5 = nI F ∧ M.2 44 6 = lN A ∧ (∀ M', f_o4 M M' → M'.1 44 5 = nI (F + (f_bo (f_may rs L kd v row) W c d S q k).1) → M'.2 44 6 = lN (A + (f_bo (f_may rs L kd v row) W c d S q k).2) → R G none M')
  | _ => False
set_option maxRecDepth 20000 in
theorem m_bo (d : Nat) (sp : fSp) (hs : ∀ e, d = e + 1 → sp = S_bo e) : f_Meets 8 (kX4_breakOn S_may S_bitCount S_hasBit sp) (S_bo d) := by
  intro G As M R hsp X hX hW
  match As, hsp with
  | [.ref 44, .int zS, .long zq, .int zk], ⟨rs, L, b, kd, v, row, c, W, S, q, k, F, A, hG, hzS, hS, hzq, hq, hzk, hkd, hY, hBK, hcu, hc3, h3, h4, hWb, h5, h6, hsp⟩ =>
    subst hG; subst hzS; subst hzq; subst hzk
    have hL17 := hY.2.2.2
    have hm17 : f_may rs L kd v row S < 2 ^ 17 := f_may_lt hL17
    refine f_run_ok (stop := fun q => Nat.beq q 21) hX 30 _ _ _ _ _ ?_
    refine ⟨rs, L, b, kd, v, row, S, rfl, h3, rfl, hS, hY, hBK, fun M1 he1 => ?_⟩
    refine ⟨f_may rs L kd v row S, rfl, hm17, ?_⟩
    generalize hmay : f_may rs L kd v row = may at *
    have hp17 : f_pc (may S) ≤ 17 := f_cnt_le _ 17
    have ho1 := f_o4.of he1
    show X f_GX 21 [some (.ref 44), some (.int (nI S)), some (.long (lN q)), none, some (.int (nI k)), some (.int (nI (may S))), some (.int (nI (f_pc (may S)))), none] [] M1
    have h4' : M1.1 44 4 = nI W := by rw [ho1.2.2.1]; exact h4
    have hcu' : M1.1 5 1 = nI c := by rw [he1.1 5 (by decide)]; exact hcu
    have h5' : M1.1 44 5 = nI F := by rw [he1.1 44 (by decide)]; exact h5
    have h6' : M1.2 44 6 = lN A := by rw [he1.2 44 (by decide)]; exact h6
    by_cases hSW : S = W
    · have hval := f_bo_at may W c d S q k hSW
      have good : (k = c ∨ f_pc (may S) = 0) → X f_GX 49 [some (.ref 44), some (.int (nI S)), some (.long (lN q)), none, some (.int (nI k)), some (.int (nI (may S))), some (.int (nI (f_pc (may S)))), none] [] M1 := by
        intro hk
        rw [hval, if_pos hk] at hsp
        refine f_run_ok (stop := fun q => false) hX 30 _ _ _ _ _ ?_
        have e1 : f_ex f_CO [44] M (f_up M1.1 44 5 (M1.1 44 5 + 1), f_upL M1.2 44 6 (M1.2 44 6 + lN q)) := (ho1.1.up (c := 44) (by decide)).upL (c := 44) (by decide)
        refine hsp _ ⟨e1, ?_, ?_, ?_⟩ ?_ ?_
        · show M1.1 44 3 = _; exact ho1.2.1
        · show M1.1 44 4 = _; exact ho1.2.2.1
        · show M1.1 44 7 = _; exact ho1.2.2.2
        · show M1.1 44 5 + 1 = nI (F + 1); rw [h5', nI_succ]
        · show M1.2 44 6 + lN q = lN (A + q); rw [h6', lN_add]
      refine f_run_ok (stop := fun q => Nat.beq q 49 || Nat.beq q 70) hX 30 _ _ _ _ _ ?_
      refine And.intro (fun h => ?_) (fun h => absurd (show nI S = M1.1 44 4 by rw [h4', hSW]) h)
      refine And.intro (fun h2 => ?_) (fun h2 => ?_)
      · have h2 : nI k = M1.1 5 1 := h2
        rw [hcu'] at h2
        exact good (Or.inl ((nI_eq (by omega) (by omega)).mp h2))
      · have h2 : ¬ nI k = M1.1 5 1 := h2
        rw [hcu'] at h2
        refine And.intro (fun h3 => ?_) (fun h3 => ?_)
        · exact good (Or.inr ((nI_eq (b := 0) (by omega) (by omega)).mp h3))
        · have h3 : ¬ f_pc (may S) = 0 := fun z => h3 (by rw [z]; rfl)
          rw [hval, if_neg (fun z => z.elim (fun z => h2 (by rw [z])) h3)] at hsp
          exact hsp M1 ho1 h5' h6'
    · have fin : ∀ (M' : fMem) (u : Option Value), f_o4 M M' → M'.1 44 5 = nI (F + (f_bo may W c d S q k).1) → M'.2 44 6 = lN (A + (f_bo may W c d S q k).2) → X f_GX 131 [some (.ref 44), some (.int (nI S)), some (.long (lN q)), none, some (.int (nI k)), some (.int (nI (may S))), some (.int (nI (f_pc (may S)))), u] [] M' := by
        intro M' u h1 h2 h3
        refine f_run_ok (stop := fun q => false) hX 10 _ _ _ _ _ ?_
        exact hsp M' h1 h2 h3
      have loop : ∀ (e n j : Nat) (M' : fMem), d = e + 1 → f_pc (may S) ≠ 0 → n + j = 17 → 1 ≤ j → f_o4 M M' → M'.1 44 5 = nI (F + (f_acc (fun x => (may S &&& W).testBit x) (fun x => f_bo may W c e (S ||| 2 ^ x) (q / f_pc (may S)) (k + 1)) j).1) → M'.2 44 6 = lN (A + (f_acc (fun x => (may S &&& W).testBit x) (fun x => f_bo may W c e (S ||| 2 ^ x) (q / f_pc (may S)) (k + 1)) j).2) → X f_GX 73 [some (.ref 44), some (.int (nI S)), some (.long (lN q)), none, some (.int (nI k)), some (.int (nI (may S))), some (.int (nI (f_pc (may S)))), some (.int (nI j))] [] M' := by
        intro e n
        induction n with
        | zero =>
          intro j M' hd hp hj hj1 ho g5 g6
          have hj : j = 17 := by omega
          subst hj
          have hv : f_bo may W c d S q k = f_acc (fun x => (may S &&& W).testBit x) (fun x => f_bo may W c e (S ||| 2 ^ x) (q / f_pc (may S)) (k + 1)) 17 := by
            subst hd
            show (if S = W then _ else if f_pc (may S) = 0 then _ else _) = _
            rw [if_neg hSW, if_neg hp]
          refine f_run_ok (stop := fun q => Nat.beq q 131) hX 30 _ _ _ _ _ ?_
          exact And.intro (fun h => fin M' _ ho (by rw [hv]; exact g5) (by rw [hv]; exact g6)) (fun h => absurd ((nI_leI (a := 17) (b := 17) (by omega) (by omega)).mpr (by omega)) h)
        | succ n ih =>
          intro j M' hd hp hj hj1 ho g5 g6
          have hstep : ∀ P : Nat → Bool, ∀ g : Nat → Nat × Nat, f_acc P g (j + 1) = if P j = true then ((f_acc P g j).1 + (g j).1, (f_acc P g j).2 + (g j).2) else f_acc P g j := by
            intro P g
            show (if _ then _ else _) = _
            rw [decide_eq_true hj1, Bool.true_and]
          have g4 : M'.1 44 4 = nI W := by rw [ho.2.2.1]; exact h4
          refine f_run_ok (stop := fun q => Nat.beq q 131 || Nat.beq q 73) hX 60 _ _ _ _ _ ?_
          refine And.intro (fun h => absurd ((nI_leI (a := 17) (b := j) (by omega) (by omega)).mp h) (by omega)) (fun h => ?_)
          refine And.intro (fun h2 => absurd ((nI_leI (b := 0) (by omega) (by omega)).mp h2) (by omega)) (fun h2 => ?_)
          refine And.intro (fun h7 => absurd ((nI_leI (a := 3) (b := k) (by omega) (by omega)).mp h7) (by omega)) (fun h7 => ?_)
          have hbit : f_bit (nI (may S) &&& M'.1 44 4) (nI j) = (may S &&& W).testBit j := by
            rw [g4, fa_and, n_bit (Nat.lt_of_le_of_lt Nat.and_le_left (by omega)) (by omega)]
          refine And.intro (fun h8 => ?_) (fun h8 => ?_)
          · have h8 : f_b (f_bit (nI (may S) &&& M'.1 44 4) (nI j)) = 0 := h8
            rw [hbit] at h8
            have h8 := f_b0.mp h8
            have hv := hstep (fun x => (may S &&& W).testBit x) (fun x => f_bo may W c e (S ||| 2 ^ x) (q / f_pc (may S)) (k + 1))
            rw [if_neg (by rw [h8]; decide)] at hv
            have q := ih (j + 1) M' hd hp (by omega) (by omega) ho (by rw [hv]; exact g5) (by rw [hv]; exact g6)
            rw [nI_succ] at q
            exact q
          · have h8 : ¬ f_b (f_bit (nI (may S) &&& M'.1 44 4) (nI j)) = 0 := h8
            rw [hbit] at h8
            have h8 := f_b_nt h8
            have hv := hstep (fun x => (may S &&& W).testBit x) (fun x => f_bo may W c e (S ||| 2 ^ x) (q / f_pc (may S)) (k + 1))
            rw [if_pos h8] at hv
            have hne : ¬ (nI (f_pc (may S))).toInt64 = 0 := by
              rw [f_wide (by omega)]
              exact fun z => hp (by have := (pk_lEQ (b := 0) (by omega) (by omega)).mp z; omega)
            refine And.intro hne ?_
            rw [hs e hd]
            have hdiv : lN q / (nI (f_pc (may S))).toInt64 = lN (q / f_pc (may S)) := by rw [f_wide (by omega)]; exact pk_lDiv hq (by omega) (by omega)
            have hor : nI S ||| (1 : Int32) <<< (nI j &&& 31) = nI (S ||| 2 ^ j) := n_orbit (by omega)
            have hYe := hY.ex ho.1 (by decide) (by decide) (by decide) (by decide) (by decide)
            have hBe := hBK.ex ho.1 (by decide) (by decide) (by decide)
            refine ⟨rs, L, b, kd, v, row, c, W, S ||| 2 ^ j, q / f_pc (may S), k + 1, _, _, rfl, hor, n_or_lt hS (Nat.pow_lt_pow_right (by decide) (by omega)), hdiv, Nat.lt_of_le_of_lt (Nat.div_le_self _ _) hq, (nI_succ k).symm, by omega, hYe, hBe, by rw [ho.1.1 5 (by decide)]; exact hcu, hc3, by rw [ho.2.1]; exact h3, g4, hWb, g5, g6, fun M2 ho2 k5 k6 => ?_⟩
            rw [hmay] at k5 k6
            have q := ih (j + 1) M2 hd hp (by omega) (by omega) (ho.tr ho2) (by rw [hv, k5, Nat.add_assoc]) (by rw [hv, k6, Nat.add_assoc])
            rw [nI_succ] at q
            exact q
      refine f_run_ok (stop := fun q => Nat.beq q 73) hX 30 _ _ _ _ _ ?_
      refine And.intro (fun h => ?_) (fun h => ?_)
      · have h : nI S = M1.1 44 4 := h
        rw [h4'] at h
        exact absurd ((nI_eq (by omega) (by omega)).mp h) hSW
      · by_cases hdp : d = 0 ∨ f_pc (may S) = 0
        · have hv := f_bo_no may W c d S q k hSW hdp
          show X f_GX 73 [some (.ref 44), some (.int (nI S)), some (.long (lN q)), none, some (.int (nI k)), some (.int (nI (may S))), some (.int (nI (f_pc (may S)))), some (.int 1)] [] M1
          refine f_run_ok (stop := fun q => Nat.beq q 131) hX 30 _ _ _ _ _ ?_
          have f9 : ∀ u, X f_GX 131 [some (.ref 44), some (.int (nI S)), some (.long (lN q)), none, some (.int (nI k)), some (.int (nI (may S))), some (.int (nI (f_pc (may S)))), u] [] M1 := fun u => fin M1 u ho1 (by rw [hv]; exact h5') (by rw [hv]; exact h6')
          refine And.intro (fun h => f9 _) (fun h => ?_)
          refine And.intro (fun h => f9 _) (fun h2 => ?_)
          refine And.intro (fun h => f9 _) (fun h7 => ?_)
          rcases hdp with z | z
          · exact absurd (nI_le (a := 3) (b := k) (by omega) (by omega)) h7
          · exact absurd (show nI (f_pc (may S)) ≤ 0 by rw [z]; decide) h2
        · obtain ⟨e, he⟩ : ∃ e, d = e + 1 := ⟨d - 1, by omega⟩
          exact loop e 16 1 M1 he (by omega) (by omega) (by omega) ho1 h5' h6'
/-! ===== Orders: longerRow, follow, comparableWeight ===== -/
def S_lgr : fSp := fun G As M R => match As with
  | [.ref 44, .int zp, .int zl] => ∃ p : Nat, G = f_GX ∧ zp = nI p ∧ p < 100 ∧ (∀ M', f_ex [45] [] M M' → (∀ i, i < 4 → M'.1 45 i = if i < p then M.1 12 i else if i = p then zl else M.1 12 (i - 1)) → R G (some (.ref 45)) M')
  | _ => False
set_option maxRecDepth 20000 in
theorem m_lgr : f_Meets 4 (kX4_longerRow S_at S_put) S_lgr := by
  intro G As M R hsp X hX hW
  match As, hsp with
  | [.ref 44, .int zp, .int zl], ⟨p, hG, hz, hp, hsp⟩ =>
    subst hG; subst hz
    have loop : ∀ (n j : Nat) (M' : fMem), n + j = 4 → f_ex [45] [] M M' → (∀ i, i < j → M'.1 45 i = if i < p then M.1 12 i else if i = p then zl else M.1 12 (i - 1)) → X f_GX 2 [some (.ref 44), some (.int (nI p)), some (.int zl), some (.int (nI j))] [] M' := by
      intro n
      induction n with
      | zero =>
        intro j M' hj he hv
        have hj : j = 4 := by omega
        subst hj
        refine f_run_ok (stop := fun q => false) hX 20 _ _ _ _ _ ?_
        exact And.intro (fun h => hsp M' he hv) (fun h => absurd ((nI_leI (a := 4) (b := 4) (by omega) (by omega)).mpr (by omega)) h)
      | succ n ih =>
        intro j M' hj he hv
        have g12 : M'.1 12 = M.1 12 := he.1 12 (by decide)
        have put : ∀ w : Int32, w = (if j < p then M.1 12 j else if j = p then zl else M.1 12 (j - 1)) → X f_GX 2 [some (.ref 44), some (.int (nI p)), some (.int zl), some (.int (nI j + 1))] [] (f_pt 4 45 (nI j) w M') := by
          intro w hw
          rw [f_pt_in (by omega) (by decide), ← nI_succ]
          refine ih (j + 1) _ (by omega) (he.up (by decide)) (fun i hi => ?_)
          show (if 45 = 45 then (if i = j then w else M'.1 45 i) else M'.1 45 i) = _
          rw [if_pos rfl]
          by_cases e : i = j
          · rw [if_pos e, hw, e]
          · rw [if_neg e]; exact hv i (by omega)
        refine f_run_ok (stop := fun q => Nat.beq q 2) hX 60 _ _ _ _ _ ?_
        refine And.intro (fun h => absurd ((nI_leI (a := 4) (b := j) (by omega) (by omega)).mp h) (by omega)) (fun h => ?_)
        refine And.intro (fun h2 => ?_) (fun h2 => ?_)
        · have h2 := (nI_leI (by omega) (by omega)).mp h2
          refine And.intro (fun h3 => ?_) (fun h3 => ?_)
          · have h3 := (nI_eq (by omega) (by omega)).mp h3
            exact put zl (by rw [if_neg (by omega), if_pos h3])
          · have h3 : ¬ j = p := fun z => h3 (by rw [z])
            refine put (f_at (4, M'.1 12) (nI j - 1)) ?_
            rw [if_neg (by omega), if_neg h3, show nI j - 1 = nI (j - 1) from pk_sub (b := 1) (by omega), f_at_in (t := (4, M'.1 12)) (by show j - 1 < 4; omega) (by show 4 < 2 ^ 31; omega)]
            show M'.1 12 (j - 1) = _
            rw [g12]
        · have h2 : ¬ p ≤ j := fun z => h2 ((nI_leI (by omega) (by omega)).mpr z)
          refine put (f_at (4, M'.1 12) (nI j)) ?_
          rw [if_pos (by omega), f_at_in (t := (4, M'.1 12)) (by show j < 4; omega) (by show 4 < 2 ^ 31; omega)]
          show M'.1 12 j = _
          rw [g12]
    refine f_run_ok (stop := fun q => Nat.beq q 2) hX 10 _ _ _ _ _ ?_
    exact loop 4 0 M rfl f_ex.rf (fun i hi => by omega)
def S_cw : fSp := fun G As M R => match As with
  | [.ref 44] => ∃ f A : Nat, G = f_GX ∧ M.1 44 7 = nI f ∧ 1 ≤ f ∧ f ≤ 17 ∧ M.2 44 6 = lN A ∧ R G (some (.long (lN (A * (720720 / f))))) M
  | _ => False
theorem m_cw : f_Meets 1 kX4_comparableWeight S_cw := by
  intro G As M R hsp X hX hW
  match As, hsp with
  | [.ref 44], ⟨f, A, hG, h7, hf1, hf17, h6, hsp⟩ =>
    subst hG
    refine f_run_ok (stop := fun q => false) hX 30 _ _ _ _ _ ?_
    refine And.intro (fun h => ?_) (fun h => ?_)
    · have h : M.1 44 7 ≤ 0 := h
      rw [h7] at h
      exact absurd ((nI_leI (b := 0) (by omega) (by omega)).mp h) (by omega)
    · have hw : (M.1 44 7).toInt64 = lN f := by rw [h7]; exact f_wide (by omega)
      have hne : ¬ (M.1 44 7).toInt64 = 0 := by
        rw [hw]
        exact fun z => by have := (pk_lEQ (b := 0) (by omega) (by omega)).mp z; omega
      refine And.intro hne ?_
      refine f_fin hsp ?_ rfl
      refine congrArg (fun z => some (Value.long z)) ?_
      show _ = M.2 44 6 * (lN 720720 / (M.1 44 7).toInt64)
      rw [hw, h6, pk_lDiv (by omega) (by omega) (by omega), lN_mul]
def f_wt (a : Nat → Nat) : Nat → Nat
  | 0 => 0
  | n + 1 => if n = 0 then 0 else f_wt a n ||| 2 ^ f_sm n a
def f_fol (may : Nat → Nat) (L c : Nat) (a : Nat → Nat) (n : Nat) : Nat × Nat :=
  if 1 ≤ n ∧ n ≤ c + 1 ∧ f_sm n a = L then f_bo may (f_wt a n) c 3 0 (f_tot may) 0 else (0, 0)
theorem f_sum_nI {t : Nat × (Nat → Int32)} {a : Nat → Nat} {m : Nat} (hm : m ≤ t.1) (hb : t.1 < 2 ^ 31) (h : ∀ i, i < m → t.2 i = nI (a i)) : f_sum t m = nI (f_sm m a) := by
  induction m with
  | zero => rfl
  | succ m ih =>
    show f_sum t m + f_at t (nI m) = nI (f_sm m a + a m)
    rw [ih (by omega) (fun i hi => h i (by omega)), f_at_in (by omega) hb, h m (by omega), nI_add]
theorem f_wt_lt (a : Nat → Nat) (n : Nat) (h : ∀ i, i < n → f_sm i a < 17) : f_wt a n < 2 ^ 17 := by
  induction n with
  | zero => show 0 < 2 ^ 17; decide
  | succ n ih =>
    unfold f_wt
    split
    · decide
    · exact n_or_lt (ih (fun i hi => h i (by omega))) (Nat.pow_lt_pow_right (by decide) (h n (by omega)))
theorem f_sm_lt (a : Nat → Nat) (h1 : ∀ i, 1 ≤ a i) : ∀ n i, i < n → f_sm i a < f_sm n a := by
  intro n
  induction n with
  | zero => intro i hi; omega
  | succ n ih =>
    intro i hi
    have := h1 n
    show _ < f_sm n a + a n
    by_cases e : i = n
    · rw [e]; omega
    · have := ih i (by omega); omega
def S_fol : fSp := fun G As M R => match As with
  | [.ref 44, .int z, .ref r, .int zn] => ∃ (rs : List fRl) (L b kd v : Nat) (row : Nat → Nat) (c n : Nat) (a : Nat → Nat), G = f_GX ∧ (r = 12 ∨ r = 45) ∧ z = nI b ∧ zn = nI n ∧ n ≤ 4 ∧ f_YH M L rs ∧ f_BK M b kd v row ∧ M.1 5 1 = nI c ∧ c ≤ 3 ∧ (∀ i, i < n → M.1 r i = nI (a i)) ∧ (∀ i, 1 ≤ a i ∧ a i ≤ 17) ∧ (∀ M', f_ex f_CO [44] M M' → M'.1 44 5 = nI (f_fol (f_may rs L kd v row) L c a n).1 → M'.2 44 6 = lN (f_fol (f_may rs L kd v row) L c a n).2 → M'.1 44 7 = nI (max 1 (f_pc (f_may rs L kd v row 0))) → R G none M')
  | _ => False
theorem f_max1 {m : Nat} (h : m < 2 ^ 31) : (if (1 : Int32) < nI m then nI m else 1) = nI (max 1 m) := by
  by_cases h1 : 1 < m
  · have z1 : (1 : Int32) < nI m := nI_lt (a := 1) h1 h
    rw [if_pos z1, Nat.max_eq_right (by omega)]
  · have z1 : ¬ (1 : Int32) < nI m := fun z => h1 ((nI_ltI (a := 1) (by omega) h).mp z)
    rw [if_neg z1, Nat.max_eq_left (by omega)]; rfl
set_option maxRecDepth 20000 in
theorem m_fol : f_Meets 5 (kX4_follow S_may S_bitCount S_max S_sumOf (S_bo 3)) S_fol := by
  intro G As M R hsp X hX hW
  match As, hsp with
  | [.ref 44, .int z, .ref r, .int zn], ⟨rs, L, b, kd, v, row, c, n, a, hG, hr, hz, hzn, hn4, hY, hBK, hcu, hc3, har, ha1, hsp⟩ =>
    subst hG; subst hz; subst hzn
    have hL17 := hY.2.2.2
    have hm17 : f_may rs L kd v row 0 < 2 ^ 17 := f_may_lt hL17
    refine f_run_ok (stop := fun q => Nat.beq q 38) hX 60 _ _ _ _ _ ?_
    have he0 : f_ex f_CO [44] M (f_up (f_up M.1 44 3 (nI b)) 44 5 0, f_upL M.2 44 6 0) := (((f_ex.rf.up (by decide)).up (c := 44) (by decide)).upL (c := 44) (by decide))
    refine ⟨rs, L, b, kd, v, row, 0, rfl, rfl, rfl, by decide, hY.ex he0 (by decide) (by decide) (by decide) (by decide) (by decide), hBK.ex he0 (by decide) (by decide) (by decide), fun M1 he1 => ?_⟩
    refine ⟨f_may rs L kd v row 0, rfl, hm17, ?_⟩
    have hp17 : f_pc (f_may rs L kd v row 0) ≤ 17 := f_cnt_le _ 17
    have hT : f_tot (f_may rs L kd v row) < 2 ^ 63 := by
      have : f_tot (f_may rs L kd v row) ≤ 17 * f_U := by
        unfold f_tot
        rw [Nat.mul_comm]
        exact Nat.mul_le_mul_right _ (by omega)
      unfold f_U at this
      omega
    have hval := @f_max1 (f_pc (f_may rs L kd v row 0)) (by omega)
    show X f_GX 38 [some (.ref 44), some (.int (nI b)), some (.ref r), some (.int (nI n)), none] [] (f_up M1.1 44 7 (if (1 : Int32) < nI (f_pc (f_may rs L kd v row 0)) then nI (f_pc (f_may rs L kd v row 0)) else 1), M1.2)
    rw [hval]
    have heA : f_ex f_CO [44] M (f_up M1.1 44 7 (nI (max 1 (f_pc (f_may rs L kd v row 0)))), M1.2) := (he0.tr (he1.mono (by decide) (by simp))).up (by decide)
    have a3 : f_up M1.1 44 7 (nI (max 1 (f_pc (f_may rs L kd v row 0)))) 44 3 = nI b := by
      show M1.1 44 3 = _
      rw [he1.1 44 (by decide)]; rfl
    have a5 : f_up M1.1 44 7 (nI (max 1 (f_pc (f_may rs L kd v row 0)))) 44 5 = nI 0 := by
      show M1.1 44 5 = _
      rw [he1.1 44 (by decide)]; rfl
    have a6 : M1.2 44 6 = lN 0 := by
      rw [he1.2 44 (by decide)]; rfl
    have a7 : f_up M1.1 44 7 (nI (max 1 (f_pc (f_may rs L kd v row 0)))) 44 7 = nI (max 1 (f_pc (f_may rs L kd v row 0))) := rfl
    generalize hMA : ((f_up M1.1 44 7 (nI (max 1 (f_pc (f_may rs L kd v row 0)))), M1.2) : fMem) = MA at heA ⊢
    have b3 : MA.1 44 3 = nI b := by rw [← hMA]; exact a3
    have b5 : MA.1 44 5 = nI 0 := by rw [← hMA]; exact a5
    have b6 : MA.2 44 6 = lN 0 := by rw [← hMA]; exact a6
    have b7 : MA.1 44 7 = nI (max 1 (f_pc (f_may rs L kd v row 0))) := by rw [← hMA]; exact a7
    have bad : ∀ u, ¬ (1 ≤ n ∧ n ≤ c + 1 ∧ f_sm n a = L) → X f_GX 129 [some (.ref 44), some (.int (nI b)), some (.ref r), some (.int (nI n)), u] [] MA := by
      intro u h
      refine f_run_ok (stop := fun q => false) hX 10 _ _ _ _ _ ?_
      have e : f_fol (f_may rs L kd v row) L c a n = (0, 0) := if_neg h
      exact hsp MA heA (by rw [e]; exact b5) (by rw [e]; exact b6) b7
    have hrow : ∀ M' : fMem, f_ex f_CO [44] M M' → ∃ g, f_arI 0 f_GX M' r = some (4, g) ∧ ∀ i, i < n → g i = nI (a i) := by
      intro M' he
      rcases hr with rfl | rfl
      · exact ⟨M'.1 12, rfl, fun i hi => by rw [he.1 12 (by decide)]; exact har i hi⟩
      · exact ⟨M'.1 45, rfl, fun i hi => by rw [he.1 45 (by decide)]; exact har i hi⟩
    have hsmall : ∀ i, i ≤ 4 → f_sm i a ≤ 17 * i := by
      intro i
      induction i with
      | zero => intro _; exact Nat.le_refl _
      | succ i ih => intro hi; have := ih (by omega); have := (ha1 i).2; show f_sm i a + a i ≤ _; omega
    have cut1 : MA.1 5 1 = nI c := by rw [heA.1 5 (by decide)]; exact hcu
    have len1 : MA.1 5 0 = nI L := by rw [heA.1 5 (by decide)]; exact hY.2.1
    obtain ⟨g, hg, hgv⟩ := hrow MA heA
    refine f_run_ok (stop := fun q => Nat.beq q 77 || Nat.beq q 129) hX 40 _ _ _ _ _ ?_
    refine And.intro (fun h => ?_) (fun h => ?_)
    · exact bad _ (fun z => absurd ((nI_ltI (b := 1) (by omega) (by omega)).mp h) (by omega))
    · have h1n : 1 ≤ n := by
        have : ¬ n < 1 := fun z => h (nI_lt (b := 1) z (by omega))
        omega
      refine And.intro (fun h2 => ?_) (fun h2 => ?_)
      · have h2 : MA.1 5 1 + 1 < nI n := h2
        rw [cut1, ← nI_succ] at h2
        exact bad _ (fun z => absurd ((nI_ltI (by omega) (by omega)).mp h2) (by omega))
      · have h2 : ¬ MA.1 5 1 + 1 < nI n := h2
        rw [cut1, ← nI_succ] at h2
        have hnc : n ≤ c + 1 := by
          have : ¬ c + 1 < n := fun z => h2 (nI_lt z (by omega))
          omega
        show match f_arI 0 f_GX MA r with | some t => _ | none => False
        rw [hg]
        have hsv : f_sum (4, g) (nI n).toInt.toNat = nI (f_sm n a) := by
          rw [nI_toInt (by omega), Int.toNat_natCast]
          exact f_sum_nI (t := (4, g)) (by show n ≤ 4; omega) (by show 4 < 2 ^ 31; omega) hgv
        refine And.intro (fun h3 => ?_) (fun h3 => ?_)
        · have h3 : f_sum (4, g) (nI n).toInt.toNat = MA.1 5 0 := h3
          rw [hsv, len1] at h3
          have h3 : f_sm n a = L := (nI_eq (by have := hsmall n hn4; omega) (by omega)).mp h3
          show X f_GX 77 [some (.ref 44), some (.int (nI b)), some (.ref r), some (.int (nI n)), none] [] MA
          have hlt : ∀ i, i < n → f_sm i a < 17 := fun i hi => by have := f_sm_lt a (fun i => (ha1 i).1) n i hi; omega
          have loop : ∀ (d j : Nat) (M' : fMem), d + j = n → 1 ≤ j → f_o4 (f_up MA.1 44 4 0, MA.2) (f_up M'.1 44 4 0, M'.2) → M'.1 44 5 = nI 0 → M'.2 44 6 = lN 0 → M'.1 44 4 = nI (f_wt a j) → X f_GX 85 [some (.ref 44), some (.int (nI b)), some (.ref r), some (.int (nI n)), some (.int (nI j))] [] M' := by
            intro d
            induction d with
            | zero =>
              intro j M' hj hj1 ho g5 g6 g4
              have hj : j = n := by omega
              subst hj
              have he : f_ex f_CO [44] M M' := by
                refine ⟨fun q hq => ?_, fun q hq => ?_⟩
                · have h44 : q ≠ 44 := fun e => hq (by rw [e]; decide)
                  have := ho.1.1 q hq
                  change f_up M'.1 44 4 0 q = f_up MA.1 44 4 0 q at this
                  rw [f_up_ne h44, f_up_ne h44] at this
                  rw [this, heA.1 q hq]
                · have := ho.1.2 q hq
                  change M'.2 q = MA.2 q at this
                  rw [this, heA.2 q hq]
              have g3 : M'.1 44 3 = nI b := by
                have := ho.2.1
                change M'.1 44 3 = MA.1 44 3 at this
                rw [this, b3]
              have g7 : M'.1 44 7 = nI (max 1 (f_pc (f_may rs L kd v row 0))) := by
                have := ho.2.2.2
                change M'.1 44 7 = MA.1 44 7 at this
                rw [this, b7]
              refine f_run_ok (stop := fun q => Nat.beq q 129) hX 40 _ _ _ _ _ ?_
              refine And.intro (fun h => ?_) (fun h => absurd (nI_le (Nat.le_refl j) (by omega)) h)
              have hw := f_wt_lt a j hlt
              refine ⟨rs, L, b, kd, v, row, c, f_wt a j, 0, f_tot (f_may rs L kd v row), 0, 0, 0, rfl, rfl, by decide, ?_, hT, rfl, rfl, hY.ex he (by decide) (by decide) (by decide) (by decide) (by decide), hBK.ex he (by decide) (by decide) (by decide), by rw [he.1 5 (by decide)]; exact hcu, hc3, g3, g4, hw, g5, g6, fun M2 ho2 k5 k6 => ?_⟩
              · show (129859329600 : Int64) * (M'.1 44 7).toInt64 = _
                rw [g7, f_wide (by omega)]
                exact lN_mul f_U _
              · refine f_run_ok (stop := fun q => false) hX 10 _ _ _ _ _ ?_
                have e : f_fol (f_may rs L kd v row) L c a j = f_bo (f_may rs L kd v row) (f_wt a j) c 3 0 (f_tot (f_may rs L kd v row)) 0 := if_pos ⟨h1n, hnc, h3⟩
                exact hsp M2 (he.tr ho2.1) (by rw [e, k5, Nat.zero_add]) (by rw [e, k6, Nat.zero_add]) (by rw [ho2.2.2.2]; exact g7)
            | succ d ih =>
              intro j M' hj hj1 ho g5 g6 g4
              have he : f_ex f_CO [44] M M' := by
                refine ⟨fun q hq => ?_, fun q hq => ?_⟩
                · have h44 : q ≠ 44 := fun e => hq (by rw [e]; decide)
                  have := ho.1.1 q hq
                  change f_up M'.1 44 4 0 q = f_up MA.1 44 4 0 q at this
                  rw [f_up_ne h44, f_up_ne h44] at this
                  rw [this, heA.1 q hq]
                · have := ho.1.2 q hq
                  change M'.2 q = MA.2 q at this
                  rw [this, heA.2 q hq]
              obtain ⟨g', hg', hgv'⟩ := hrow M' he
              refine f_run_ok (stop := fun q => Nat.beq q 85) hX 40 _ _ _ _ _ ?_
              refine And.intro (fun h => absurd ((nI_leI (by omega) (by omega)).mp h) (by omega)) (fun h => ?_)
              show match f_arI 0 f_GX M' r with | some t => _ | none => False
              rw [hg']
              have hsv' : f_sum (4, g') (nI j).toInt.toNat = nI (f_sm j a) := by
                rw [nI_toInt (by omega), Int.toNat_natCast]
                exact f_sum_nI (t := (4, g')) (by show j ≤ 4; omega) (by show 4 < 2 ^ 31; omega) (fun i hi => hgv' i (by omega))
              show X f_GX 85 [some (.ref 44), some (.int (nI b)), some (.ref r), some (.int (nI n)), some (.int (nI j + 1))] [] (f_up M'.1 44 4 (M'.1 44 4 ||| (1 : Int32) <<< (f_sum (4, g') (nI j).toInt.toNat &&& 31)), M'.2)
              have hj17 := hlt j (by omega)
              rw [hsv', g4, n_orbit (by omega), ← nI_succ]
              refine ih (j + 1) _ (by omega) (by omega) ?_ g5 g6 ?_
              · have e : (f_up (f_up M'.1 44 4 (nI (f_wt a j ||| 2 ^ f_sm j a))) 44 4 0) = f_up M'.1 44 4 0 := by
                  funext x y
                  unfold f_up
                  by_cases h1 : x = 44
                  · by_cases h2 : y = 4
                    · simp [h1, h2]
                    · simp [h1, h2]
                  · simp [h1]
                show f_o4 _ (f_up (f_up M'.1 44 4 (nI (f_wt a j ||| 2 ^ f_sm j a))) 44 4 0, M'.2)
                rw [e]
                exact ho
              · show nI (f_wt a j ||| 2 ^ f_sm j a) = nI (if j = 0 then 0 else f_wt a j ||| 2 ^ f_sm j a)
                rw [if_neg (by omega)]
          refine f_run_ok (stop := fun q => Nat.beq q 85) hX 20 _ _ _ _ _ ?_
          refine loop (n - 1) 1 (f_up MA.1 44 4 0, MA.2) (by omega) (by omega) ?_ b5 b6 rfl
          have e : (f_up (f_up MA.1 44 4 0) 44 4 0) = f_up MA.1 44 4 0 := by
            funext x y
            unfold f_up
            by_cases h1 : x = 44
            · by_cases h2 : y = 4
              · simp [h1, h2]
              · simp [h1, h2]
            · simp [h1]
          show f_o4 _ (f_up (f_up MA.1 44 4 0) 44 4 0, MA.2)
          rw [e]
          exact f_o4.rf
        · have h3 : ¬ f_sum (4, g) (nI n).toInt.toNat = MA.1 5 0 := h3
          rw [hsv, len1] at h3
          exact bad _ (fun z => h3 (by rw [z.2.2]))
/-! ===== Ring ===== -/
def f_onto : Nat → Nat → Nat
  | 0, u => if u = 0 then 1 else 0
  | k + 1, u => if u = 0 then 0 else u * (f_onto k u + f_onto k (u - 1))
def S_onto : fSp := fun G As M R => match As with
  | [.ref 46, .int zk] => ∃ k : Nat, G = f_GX ∧ zk = nI k ∧ k < 1000 ∧ (∀ M', f_ex [] [47] M M' → (∀ u, u < 7 → M'.2 47 u = lN (f_onto k u)) → R G none M')
  | _ => False
set_option maxRecDepth 20000 in
theorem m_onto : f_Meets 4 (kX6_countOnto S_putLong S_longAt) S_onto := by
  intro G As M R hsp X hX hW
  match As, hsp with
  | [.ref 46, .int zk], ⟨k, hG, hz, hk, hsp⟩ =>
    subst hG; subst hz
    -- one arc, from the top down
    have inner : ∀ (t : Nat) (K : ∀ M', f_ex [] [47] M M' → (∀ u, u < 7 → M'.2 47 u = lN (f_onto (t + 1) u)) → X f_GX 81 [some (.ref 46), some (.int (nI k)), some (.int (nI t)), some (.int (nI 0 + (-1)))] [] M'), ∀ (n : Nat) (M' : fMem), n ≤ 7 → f_ex [] [47] M M' → (∀ u, u < 7 → M'.2 47 u = lN (if u < n then f_onto t u else f_onto (t + 1) u)) → X f_GX 41 [some (.ref 46), some (.int (nI k)), some (.int (nI t)), some (.int (nI n + (-1)))] [] M' := by
      intro t K n
      induction n with
      | zero =>
        intro M' hn he hv
        refine f_run_ok (stop := fun q => Nat.beq q 81) hX 10 _ _ _ _ _ ?_
        exact And.intro (fun h => K M' he (fun u hu => by rw [hv u hu, if_neg (by omega)])) (fun h => absurd (show (nI 0 + (-1) : Int32) < 0 by decide) h)
      | succ n ih =>
        intro M' hn he hv
        have e1 : nI (n + 1) + (-1) = nI n := pk_m1 n
        rw [e1]
        refine f_run_ok (stop := fun q => Nat.beq q 41) hX 40 _ _ _ _ _ ?_
        refine And.intro (fun h => absurd ((nI_ltI (b := 0) (by omega) (by omega)).mp h) (by omega)) (fun h => ?_)
        have ha : f_atL 7 (M'.2 47) (nI n) = lN (f_onto t n) := by rw [f_atL_in (by omega) (by decide), hv n (by omega), if_pos (by omega)]
        have hb : f_atL 7 (M'.2 47) (nI n - 1) = lN (if n = 0 then 0 else f_onto t (n - 1)) := by
          by_cases h0 : n = 0
          · subst h0; rfl
          · rw [show nI n - 1 = nI (n - 1) from pk_sub (b := 1) (by omega), f_atL_in (by omega) (by decide), hv (n - 1) (by omega), if_pos (by omega), if_neg h0]
        have hval : (nI n).toInt64 * (f_atL 7 (M'.2 47) (nI n) + f_atL 7 (M'.2 47) (nI n - 1)) = lN (f_onto (t + 1) n) := by
          rw [ha, hb, f_wide (by omega), lN_add, lN_mul]
          refine congrArg lN ?_
          show _ = if n = 0 then 0 else n * (f_onto t n + f_onto t (n - 1))
          by_cases h0 : n = 0
          · rw [if_pos h0, h0, Nat.zero_mul]; rfl
          · rw [if_neg h0, if_neg h0]
        have q := ih (M'.1, f_upL M'.2 47 n (lN (f_onto (t + 1) n))) (by omega) (he.upL (by decide)) (fun u hu => by
          show (if 47 = 47 then (if u = n then lN (f_onto (t + 1) n) else M'.2 47 u) else M'.2 47 u) = _
          rw [if_pos rfl]
          by_cases e : u = n
          · rw [if_pos e, e, if_neg (by omega)]
          · rw [if_neg e, hv u hu]
            by_cases hl : u < n
            · rw [if_pos hl, if_pos (by omega)]
            · rw [if_neg hl, if_neg (by omega)])
        rw [← f_putL_in (n := 7) (by omega) (by decide), ← hval] at q
        exact q
    have outer : ∀ (d t : Nat) (M' : fMem) (u3 : Option Value), d + t = k → f_ex [] [47] M M' → (∀ u, u < 7 → M'.2 47 u = lN (f_onto t u)) → X f_GX 33 [some (.ref 46), some (.int (nI k)), some (.int (nI t)), u3] [] M' := by
      intro d
      induction d with
      | zero =>
        intro t M' u3 hd he hv
        have hd : t = k := by omega
        subst hd
        refine f_run_ok (stop := fun q => false) hX 10 _ _ _ _ _ ?_
        exact And.intro (fun h => hsp M' he hv) (fun h => absurd (nI_le (Nat.le_refl t) (by omega)) h)
      | succ d ih =>
        intro t M' u3 hd he hv
        refine f_run_ok (stop := fun q => Nat.beq q 41) hX 10 _ _ _ _ _ ?_
        refine And.intro (fun h => absurd ((nI_leI (by omega) (by omega)).mp h) (by omega)) (fun h => ?_)
        have q7 : (nI 7 + (-1) : Int32) = 6 := by decide
        have q := inner t (fun M2 he2 hv2 => by
          refine f_run_ok (stop := fun q => Nat.beq q 33) hX 10 _ _ _ _ _ ?_
          have q := ih (t + 1) M2 (some (.int (nI 0 + (-1)))) (by omega) he2 hv2
          rw [nI_succ] at q
          exact q) 7 M' (by omega) he (fun u hu => by rw [if_pos hu]; exact hv u hu)
        rw [q7] at q
        exact q
    have first : ∀ (d j : Nat) (M' : fMem), d + j = 7 → f_ex [] [47] M M' → (∀ u, u < j → M'.2 47 u = lN (f_onto 0 u)) → X f_GX 2 [some (.ref 46), some (.int (nI k)), some (.int (nI j)), none] [] M' := by
      intro d
      induction d with
      | zero =>
        intro j M' hd he hv
        have hd : j = 7 := by omega
        subst hd
        refine f_run_ok (stop := fun q => Nat.beq q 33) hX 10 _ _ _ _ _ ?_
        exact And.intro (fun h => outer k 0 M' none rfl he hv) (fun h => absurd (show (6 : Int32) < nI 7 by decide) h)
      | succ d ih =>
        intro j M' hd he hv
        have put : ∀ w : Int64, w = lN (f_onto 0 j) → X f_GX 2 [some (.ref 46), some (.int (nI k)), some (.int (nI j + 1)), none] [] (f_putL 7 47 (nI j) w M') := by
          intro w hw
          rw [f_putL_in (by omega) (by decide), ← nI_succ]
          refine ih (j + 1) _ (by omega) (he.upL (by decide)) (fun u hu => ?_)
          show (if 47 = 47 then (if u = j then w else M'.2 47 u) else M'.2 47 u) = _
          rw [if_pos rfl]
          by_cases e : u = j
          · rw [if_pos e, hw, e]
          · rw [if_neg e]; exact hv u (by omega)
        refine f_run_ok (stop := fun q => Nat.beq q 2) hX 20 _ _ _ _ _ ?_
        refine And.intro (fun h => absurd ((nI_ltI (a := 6) (by omega) (by omega)).mp h) (by omega)) (fun h => ?_)
        refine And.intro (fun h2 => ?_) (fun h2 => ?_)
        · have h2 : j = 0 := (nI_eq (b := 0) (by omega) (by omega)).mp h2
          exact put 1 (by rw [h2]; rfl)
        · have h2 : ¬ j = 0 := fun z => h2 (by rw [z]; rfl)
          exact put 0 (by show _ = lN (if j = 0 then 1 else 0); rw [if_neg h2]; rfl)
    refine f_run_ok (stop := fun q => Nat.beq q 2) hX 10 _ _ _ _ _ ?_
    exact first 7 0 M rfl f_ex.rf (fun u hu => by omega)
def f_rot (n t : Nat) : Nat := (t * 2 ||| t / 2 ^ (n - 1)) &&& (2 ^ n - 1)
def f_trn (n s : Nat) : Nat → Nat
  | 0 => s
  | i + 1 => f_rot n (f_trn n s i)
def f_cvd (n s : Nat) : Nat → Nat
  | 0 => 0
  | i + 1 => f_cvd n s i ||| f_trn n s i
def f_cvs (n a s : Nat) : Bool := decide (f_cvd n s a = 2 ^ n - 1)
theorem f_trn_lt {n s : Nat} (h : s < 2 ^ n) : ∀ i, f_trn n s i < 2 ^ n := by
  intro i
  cases i with
  | zero => exact h
  | succ i =>
    have h1 : 0 < 2 ^ n := Nat.pow_pos (by decide)
    have h2 : f_rot n (f_trn n s i) ≤ 2 ^ n - 1 := Nat.and_le_right
    show f_rot n (f_trn n s i) < 2 ^ n
    omega
theorem f_cvd_lt {n s : Nat} (h : s < 2 ^ n) : ∀ i, f_cvd n s i < 2 ^ n := by
  intro i
  induction i with
  | zero => exact Nat.pow_pos (by decide)
  | succ i ih => exact n_or_lt ih (f_trn_lt h i)
def S_covers : fSp := fun G As M R => match As with
  | [.int zs, .int zn, .int za] => ∃ s n a : Nat, zs = nI s ∧ zn = nI n ∧ za = nI a ∧ 1 ≤ n ∧ n ≤ 10 ∧ s < 2 ^ n ∧ 1 ≤ a ∧ a ≤ 10 ∧ R G (some (.int (f_b (f_cvs n a s)))) M
  | _ => False
set_option maxRecDepth 20000 in
theorem m_covers : f_Meets 7 kX6_covers S_covers := by
  intro G As M R hsp X hX hW
  match As, hsp with
  | [.int zs, .int zn, .int za], ⟨s, n, a, hzs, hzn, hza, hn1, hn10, hs, ha1, ha10, hsp⟩ =>
    subst hzs; subst hzn; subst hza
    have hp : 2 ^ n ≤ 2 ^ 10 := Nat.pow_le_pow_right (by decide) hn10
    have hp0 : 0 < 2 ^ n := Nat.pow_pos (by decide)
    have hall : (1 : Int32) <<< (nI n &&& 31) - 1 = nI (2 ^ n - 1) := by rw [n_shl (by omega)]; exact pk_sub (b := 1) (by omega)
    have loop : ∀ (d i : Nat), d + i = a → 1 ≤ i → X G 15 [some (.int (nI s)), some (.int (nI n)), some (.int (nI a)), some (.int (nI (2 ^ n - 1))), some (.int (nI (f_cvd n s i))), some (.int (nI (f_trn n s (i - 1)))), some (.int (nI i))] [] M := by
      intro d
      induction d with
      | zero =>
        intro i hi hi1
        have hi : i = a := by omega
        subst hi
        have hc := f_cvd_lt hs i
        refine f_run_ok (stop := fun q => false) hX 20 _ _ _ _ _ ?_
        refine And.intro (fun h => ?_) (fun h => absurd (nI_le (Nat.le_refl i) (by omega)) h)
        refine And.intro (fun h2 => ?_) (fun h2 => ?_)
        · have h2 := (nI_eq (by omega) (by omega)).mp h2
          exact And.intro rfl (f_fin hsp (f_bt (decide_eq_true h2) rfl) rfl)
        · have h2 : ¬ f_cvd n s i = 2 ^ n - 1 := fun z => h2 (by rw [z])
          exact And.intro rfl (f_fin hsp (f_bf (decide_eq_false h2) rfl) rfl)
      | succ d ih =>
        intro i hi hi1
        refine f_run_ok (stop := fun q => Nat.beq q 15) hX 30 _ _ _ _ _ ?_
        refine And.intro (fun h => absurd ((nI_leI (by omega) (by omega)).mp h) (by omega)) (fun h => ?_)
        obtain ⟨j, rfl⟩ : ∃ j, i = j + 1 := ⟨i - 1, by omega⟩
        have ht := f_trn_lt hs j
        have q := ih (j + 1 + 1) (by omega) (by omega)
        have hr : (nI (f_trn n s j) <<< ((1 : Int32) &&& 31) ||| nI (f_trn n s j) >>> (nI n - 1 &&& 31)) &&& nI (2 ^ n - 1) = nI (f_trn n s (j + 1)) := by
          rw [show nI n - 1 = nI (n - 1) from pk_sub (b := 1) (by omega), n_shr (by omega) (by omega), show nI (f_trn n s j) <<< ((1 : Int32) &&& 31) = nI (f_trn n s j * 2 ^ 1) from pk_shlN (n := f_trn n s j) (1 &&& 31) 1 (by decide) (by omega), fa_or, fa_and]
          rfl
        have hc : nI (f_cvd n s (j + 1)) ||| nI (f_trn n s (j + 1)) = nI (f_cvd n s (j + 1 + 1)) := fa_or _ _
        rw [← hc, nI_succ (j + 1), show j + 1 + 1 - 1 = j + 1 from rfl, ← hr] at q
        exact q
    refine f_run_ok (stop := fun q => Nat.beq q 15) hX 20 _ _ _ _ _ ?_
    have q := loop (a - 1) 1 (by omega) (by omega)
    rw [show f_cvd n s 1 = s from Nat.zero_or s, ← hall] at q
    exact q
def f_cvg (n a k : Nat) : Nat := f_sm (2 ^ n) (fun s => if s ≠ 0 ∧ f_pc s ≤ k ∧ f_cvs n a s = true then f_onto k (f_pc s) else 0)
def S_cvg : fSp := fun G As M R => match As with
  | [.ref 46, .int zn, .int za, .int zk] => ∃ n a k : Nat, G = f_GX ∧ zn = nI n ∧ za = nI a ∧ zk = nI k ∧ 1 ≤ n ∧ n ≤ 10 ∧ 1 ≤ a ∧ a ≤ 10 ∧ k ≤ 6 ∧ (∀ M', f_ex [] [47] M M' → R G (some (.long (lN (f_cvg n a k)))) M')
  | _ => False
set_option maxRecDepth 20000 in
theorem m_cvg : f_Meets 8 (kX6_coverings S_onto S_bitCount S_covers S_longAt) S_cvg := by
  intro G As M R hsp X hX hW
  match As, hsp with
  | [.ref 46, .int zn, .int za, .int zk], ⟨n, a, k, hG, hzn, hza, hzk, hn1, hn10, ha1, ha10, hk, hsp⟩ =>
    subst hG; subst hzn; subst hza; subst hzk
    have hp : 2 ^ n ≤ 2 ^ 10 := Nat.pow_le_pow_right (by decide) hn10
    have hp0 : 2 ^ 1 ≤ 2 ^ n := Nat.pow_le_pow_right (by decide) hn1
    refine f_run_ok (stop := fun q => Nat.beq q 5) hX 10 _ _ _ _ _ ?_
    refine ⟨k, rfl, rfl, by omega, fun M1 he1 hv1 => ?_⟩
    generalize hf : (fun s => if s ≠ 0 ∧ f_pc s ≤ k ∧ f_cvs n a s = true then f_onto k (f_pc s) else 0) = f at *
    have hsm : f_cvg n a k = f_sm (2 ^ n) f := by rw [← hf]; rfl
    rw [hsm] at hsp
    have loop : ∀ (d s : Nat) (u : Option Value), d + s = 2 ^ n → 1 ≤ s → X f_GX 11 [some (.ref 46), some (.int (nI n)), some (.int (nI a)), some (.int (nI k)), some (.long (lN (f_sm s f))), none, some (.int (nI s)), u] [] M1 := by
      intro d
      induction d with
      | zero =>
        intro s u hs hs1
        have hs : s = 2 ^ n := by omega
        refine f_run_ok (stop := fun q => false) hX 20 _ _ _ _ _ ?_
        refine And.intro (fun h => ?_) (fun h => ?_)
        · exact f_fin (hsp M1 he1) (by rw [hs]) rfl
        · have h : ¬ (1 : Int32) <<< (nI n &&& 31) ≤ nI s := h
          rw [n_shl (by omega)] at h
          exact absurd (nI_le (by omega) (by omega)) h
      | succ d ih =>
        intro s u hs hs1
        have hfs : f_sm (s + 1) f = f_sm s f + f s := rfl
        have hpc : f_pc s ≤ 17 := f_cnt_le _ 17
        have skip : f s = 0 → ∀ u, X f_GX 11 [some (.ref 46), some (.int (nI n)), some (.int (nI a)), some (.int (nI k)), some (.long (lN (f_sm s f))), none, some (.int (nI s + 1)), u] [] M1 := by
          intro h0 u
          have q := ih (s + 1) u (by omega) (by omega)
          rw [hfs, h0, Nat.add_zero, nI_succ] at q
          exact q
        refine f_run_ok (stop := fun q => Nat.beq q 11) hX 40 _ _ _ _ _ ?_
        refine And.intro (fun h => ?_) (fun h => ?_)
        · have h : (1 : Int32) <<< (nI n &&& 31) ≤ nI s := h
          rw [n_shl (by omega)] at h
          exact absurd ((nI_leI (by omega) (by omega)).mp h) (by omega)
        · refine ⟨s, rfl, by omega, ?_⟩
          refine And.intro (fun h2 => ?_) (fun h2 => ?_)
          · have h2 := (nI_ltI (by omega) (by omega)).mp h2
            exact skip (by rw [← hf]; exact if_neg (fun z => by omega)) _
          · have h2 : ¬ k < f_pc s := fun z => h2 (nI_lt z (by omega))
            refine ⟨s, n, a, rfl, rfl, rfl, hn1, hn10, by omega, ha1, ha10, ?_⟩
            refine And.intro (fun h3 => ?_) (fun h3 => ?_)
            · have h3 := f_b0.mp h3
              exact skip (by rw [← hf]; exact if_neg (fun z => by rw [h3] at z; exact absurd z.2.2 (by decide))) _
            · have h3 := f_b_nt h3
              have ha : f_atL 7 (M1.2 47) (nI (f_pc s)) = lN (f_onto k (f_pc s)) := by rw [f_atL_in (by omega) (by decide)]; exact hv1 _ (by omega)
              have q := ih (s + 1) (some (.int (nI (f_pc s)))) (by omega) (by omega)
              have e : f s = f_onto k (f_pc s) := by rw [← hf]; exact if_pos ⟨by omega, by omega, h3⟩
              rw [hfs, e, nI_succ, ← lN_add, ← ha] at q
              exact q
    refine f_run_ok (stop := fun q => Nat.beq q 11) hX 10 _ _ _ _ _ ?_
    have q := loop (2 ^ n - 1) 1 none (by omega) (by omega)
    rw [show f_sm 1 f = 0 by show 0 + f 0 = 0; rw [← hf]; rfl] at q
    exact q
/-! ===== Triangles: closing, closingTriples ===== -/
def f_clz (a b c : Nat) : Bool := decide (c < a + b) && (decide (b < a + c) && decide (a < b + c))
def S_closing : fSp := fun G As M R => match As with
  | [.int x, .int y, .int z] => ∃ a b c : Nat, x = nI a ∧ y = nI b ∧ z = nI c ∧ a < 1000 ∧ b < 1000 ∧ c < 1000 ∧ R G (some (.int (f_b (f_clz a b c)))) M
  | _ => False
theorem m_closing : f_Meets 3 kX9_closing S_closing := by
  intro G As M R hsp X hX hW
  match As, hsp with
  | [.int x, .int y, .int z], ⟨a, b, c, hx, hy, hz, ha, hb, hc, hsp⟩ =>
    subst hx; subst hy; subst hz
    have key : ∀ p q r : Nat, p < 1000 → q < 1000 → r < 1000 → (nI p + nI q ≤ nI r ↔ p + q ≤ r) := fun p q r hp hq hr => by rw [nI_add]; exact nI_leI (by omega) (by omega)
    refine f_run_ok (stop := fun _ => false) hX 30 _ _ _ _ _ ?_
    refine And.intro (fun h => ?_) (fun h => ?_)
    · have h := (key a b c ha hb hc).mp h
      exact And.intro rfl (f_fin hsp (f_bf (by unfold f_clz; rw [decide_eq_false (by omega)]; rfl) rfl) rfl)
    · have h : ¬ a + b ≤ c := fun z => h ((key a b c ha hb hc).mpr z)
      refine And.intro (fun h2 => ?_) (fun h2 => ?_)
      · have h2 := (key a c b ha hc hb).mp h2
        exact And.intro rfl (f_fin hsp (f_bf (by unfold f_clz; rw [decide_eq_false (p := b < a + c) (by omega), Bool.false_and, Bool.and_false]) rfl) rfl)
      · have h2 : ¬ a + c ≤ b := fun z => h2 ((key a c b ha hc hb).mpr z)
        refine And.intro (fun h3 => ?_) (fun h3 => ?_)
        · have h3 := (key b c a hb hc ha).mp h3
          exact And.intro rfl (f_fin hsp (f_bf (by unfold f_clz; rw [decide_eq_false (p := a < b + c) (by omega), Bool.and_false, Bool.and_false]) rfl) rfl)
        · have h3 : ¬ b + c ≤ a := fun z => h3 ((key b c a hb hc ha).mpr z)
          exact And.intro rfl (f_fin hsp (f_bt (by unfold f_clz; rw [decide_eq_true (by omega), decide_eq_true (by omega), decide_eq_true (by omega)]; rfl) rfl) rfl)
def f_t1 (g : Nat → Nat) (i j n : Nat) : Nat := f_sm n (fun k => if j < k ∧ f_clz (g i) (g j) (g k) = true then 1 else 0)
def f_t2 (g : Nat → Nat) (i m n : Nat) : Nat := f_sm n (fun j => if i < j then f_t1 g i j m else 0)
def f_tri (g : Nat → Nat) (n : Nat) : Nat := f_sm n (fun i => f_t2 g i n n)
theorem f_sm_z {f : Nat → Nat} : ∀ n, (∀ x, x < n → f x = 0) → f_sm n f = 0 := by
  intro n
  induction n with
  | zero => intro _; rfl
  | succ n ih => intro h; show f_sm n f + f n = 0; rw [ih (fun x hx => h x (by omega)), h n (by omega)]
theorem f_sm_cg {f g : Nat → Nat} : ∀ n, (∀ x, x < n → f x = g x) → f_sm n f = f_sm n g := by
  intro n
  induction n with
  | zero => intro _; rfl
  | succ n ih => intro h; show f_sm n f + f n = f_sm n g + g n; rw [ih (fun x hx => h x (by omega)), h n (by omega)]
theorem f_sm_le {f : Nat → Nat} {b : Nat} : ∀ n, (∀ x, x < n → f x ≤ b) → f_sm n f ≤ n * b := by
  intro n
  induction n with
  | zero => intro _; exact Nat.zero_le _
  | succ n ih =>
    intro h
    have h1 := ih (fun x hx => h x (by omega))
    have h2 := h n (by omega)
    show f_sm n f + f n ≤ (n + 1) * b
    rw [Nat.succ_mul]
    omega
theorem f_t1_le (g : Nat → Nat) (i j n : Nat) : f_t1 g i j n ≤ n := by
  have := f_sm_le (f := fun k => if j < k ∧ f_clz (g i) (g j) (g k) = true then 1 else 0) (b := 1) n (fun x _ => by show (if _ then 1 else 0) ≤ 1; split <;> omega)
  rw [Nat.mul_one] at this
  exact this
theorem f_t2_le (g : Nat → Nat) (i m n : Nat) : f_t2 g i m n ≤ n * m := by
  refine f_sm_le n (fun x _ => ?_)
  show (if _ then _ else 0) ≤ m
  split
  · exact f_t1_le g i x m
  · exact Nat.zero_le _
theorem f_tri_le (g : Nat → Nat) (n : Nat) : f_tri g n ≤ n * (n * n) := f_sm_le n (fun x _ => f_t2_le g x n n)
theorem f_tri_cg {g g' : Nat → Nat} {n : Nat} (h : ∀ i, i < n → g i = g' i) : f_tri g n = f_tri g' n := by
  refine f_sm_cg n (fun i hi => ?_)
  refine f_sm_cg n (fun j hj => ?_)
  show (if i < j then f_t1 g i j n else 0) = (if i < j then f_t1 g' i j n else 0)
  have : f_t1 g i j n = f_t1 g' i j n := f_sm_cg n (fun k hk => by
    show (if j < k ∧ f_clz (g i) (g j) (g k) = true then 1 else 0) = (if j < k ∧ f_clz (g' i) (g' j) (g' k) = true then 1 else 0)
    rw [h i hi, h j hj, h k hk])
  rw [this]
def f_RW (G : fG) (M : fMem) (r n : Nat) (g : Nat → Nat) : Prop := ∃ t, f_arI 0 G M r = some t ∧ n ≤ t.1 ∧ (∀ i, i < n → t.2 i = nI (g i) ∧ g i < 1000)
def S_ct : fSp := fun G As M R => match As with
  | [.ref r, .int zn] => ∃ (n : Nat) (g : Nat → Nat), zn = nI n ∧ n < 100 ∧ f_RW G M r n g ∧ R G (some (.int (nI (f_tri g n)))) M
  | _ => False
set_option maxRecDepth 20000 in
theorem m_ct : f_Meets 6 (kX9_closingTriples S_at S_closing) S_ct := by
  intro G As M R hsp X hX hW
  match As, hsp with
  | [.ref r, .int zn], ⟨n, g, hz, hn, ⟨t, ht, htn, hg⟩, hsp⟩ =>
    subst hz
    have htb := (f_arI_len ht).1
    have hat : ∀ i, i < n → f_at t (nI i) = nI (g i) := fun i hi => by rw [f_at_in (by omega) (by omega)]; exact (hg i hi).1
    have l3 : ∀ (i j A : Nat) (K : X G 64 [some (.ref r), some (.int (nI n)), some (.int (nI (A + f_t1 g i j n))), some (.int (nI i)), some (.int (nI j)), some (.int (nI n))] [] M), i < n → j < n → ∀ d k, d + k = n → j < k → X G 26 [some (.ref r), some (.int (nI n)), some (.int (nI (A + f_t1 g i j k))), some (.int (nI i)), some (.int (nI j)), some (.int (nI k))] [] M := by
      intro i j A K hi hj d
      induction d with
      | zero =>
        intro k hk hjk
        have hk : k = n := by omega
        subst hk
        refine f_run_ok (stop := fun q => Nat.beq q 64) hX 10 _ _ _ _ _ ?_
        exact And.intro (fun h => K) (fun h => absurd (nI_le (Nat.le_refl k) (by omega)) h)
      | succ d ih =>
        intro k hk hjk
        have hv : f_t1 g i j (k + 1) = f_t1 g i j k + (if j < k ∧ f_clz (g i) (g j) (g k) = true then 1 else 0) := rfl
        refine f_run_ok (stop := fun q => Nat.beq q 26) hX 60 _ _ _ _ _ ?_
        refine And.intro (fun h => absurd ((nI_leI (by omega) (by omega)).mp h) (by omega)) (fun h => ?_)
        show match f_arI 0 G M r with | some t => _ | none => False
        rw [ht]
        show match f_arI 0 G M r with | some t => _ | none => False
        rw [ht]
        show match f_arI 0 G M r with | some t => _ | none => False
        rw [ht]
        refine ⟨g i, g j, g k, hat i hi, hat j hj, hat k (by omega), (hg i hi).2, (hg j hj).2, (hg k (by omega)).2, ?_⟩
        refine And.intro (fun h2 => ?_) (fun h2 => ?_)
        · have h2 := f_b0.mp h2
          have q := ih (k + 1) (by omega) (by omega)
          rw [hv, if_neg (fun z => by rw [h2] at z; exact absurd z.2 (by decide)), Nat.add_zero, nI_succ] at q
          exact q
        · have h2 := f_b_nt h2
          have q := ih (k + 1) (by omega) (by omega)
          rw [hv, if_pos ⟨hjk, h2⟩, ← Nat.add_assoc, nI_succ, nI_succ] at q
          exact q
    have l2 : ∀ (i A : Nat) (K : ∀ u5, X G 70 [some (.ref r), some (.int (nI n)), some (.int (nI (A + f_t2 g i n n))), some (.int (nI i)), some (.int (nI n)), u5] [] M), i < n → ∀ d j u5, d + j = n → i < j → X G 14 [some (.ref r), some (.int (nI n)), some (.int (nI (A + f_t2 g i n j))), some (.int (nI i)), some (.int (nI j)), u5] [] M := by
      intro i A K hi d
      induction d with
      | zero =>
        intro j u5 hj hij
        have hj : j = n := by omega
        subst hj
        refine f_run_ok (stop := fun q => Nat.beq q 70) hX 10 _ _ _ _ _ ?_
        exact And.intro (fun h => K u5) (fun h => absurd (nI_le (Nat.le_refl j) (by omega)) h)
      | succ d ih =>
        intro j u5 hj hij
        have hv : f_t2 g i n (j + 1) = f_t2 g i n j + f_t1 g i j n := by
          show f_t2 g i n j + (if i < j then f_t1 g i j n else 0) = _
          rw [if_pos hij]
        have z1 : f_t1 g i j (j + 1) = 0 := f_sm_z _ (fun x hx => if_neg (fun q => by omega))
        refine f_run_ok (stop := fun q => Nat.beq q 26) hX 20 _ _ _ _ _ ?_
        refine And.intro (fun h => absurd ((nI_leI (by omega) (by omega)).mp h) (by omega)) (fun h => ?_)
        have q := l3 i j (A + f_t2 g i n j) (by
          refine f_run_ok (stop := fun q => Nat.beq q 14) hX 10 _ _ _ _ _ ?_
          have q := ih (j + 1) (some (.int (nI n))) (by omega) (by omega)
          rw [hv, ← Nat.add_assoc, nI_succ] at q
          exact q) hi (by omega) (n - (j + 1)) (j + 1) (by omega) (by omega)
        rw [z1, Nat.add_zero, nI_succ] at q
        exact q
    have l1 : ∀ d i u4 u5, d + i = n → X G 4 [some (.ref r), some (.int (nI n)), some (.int (nI (f_sm i (fun i => f_t2 g i n n)))), some (.int (nI i)), u4, u5] [] M := by
      intro d
      induction d with
      | zero =>
        intro i u4 u5 hi
        have hi : i = n := by omega
        subst hi
        refine f_run_ok (stop := fun q => false) hX 10 _ _ _ _ _ ?_
        exact And.intro (fun h => hsp) (fun h => absurd (nI_le (Nat.le_refl i) (by omega)) h)
      | succ d ih =>
        intro i u4 u5 hi
        have hv : f_sm (i + 1) (fun i => f_t2 g i n n) = f_sm i (fun i => f_t2 g i n n) + f_t2 g i n n := rfl
        have z1 : f_t2 g i n (i + 1) = 0 := f_sm_z _ (fun x hx => if_neg (fun q => by omega))
        refine f_run_ok (stop := fun q => Nat.beq q 14) hX 20 _ _ _ _ _ ?_
        refine And.intro (fun h => absurd ((nI_leI (by omega) (by omega)).mp h) (by omega)) (fun h => ?_)
        have q := l2 i (f_sm i (fun i => f_t2 g i n n)) (fun u5 => by
          refine f_run_ok (stop := fun q => Nat.beq q 4) hX 10 _ _ _ _ _ ?_
          have q := ih (i + 1) (some (.int (nI n))) u5 (by omega)
          rw [hv, nI_succ] at q
          exact q) (by omega) (n - (i + 1)) (i + 1) u5 (by omega) (by omega)
        rw [z1, Nat.add_zero, nI_succ] at q
        exact q
    refine f_run_ok (stop := fun q => Nat.beq q 4) hX 10 _ _ _ _ _ ?_
    exact l1 n 0 none none rfl
