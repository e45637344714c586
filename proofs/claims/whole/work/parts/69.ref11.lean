/-! ===== the reference: pieces, sorted lengths, shapes ===== -/
def f_PC (M : fMem) (ps : List (Nat × Nat)) : Prop := M.1 100 17 = nI ps.length ∧ ps.length ≤ 17 ∧ ∀ k q, ps[k]? = some q → M.1 105 k = nI q.1 ∧ M.1 106 k = nI q.2 ∧ q.1 < q.2 ∧ q.2 ≤ 17
theorem f_PC.em {ls : List Nat} {M M' : fMem} {ps : List (Nat × Nat)} (h : f_PC M ps) (he : f_em ls M M') (h1 : 105 ∉ ls ∧ 106 ∉ ls ∧ 1017 ∉ ls) : f_PC M' ps :=
  ⟨(he.2.2.1 17 h1.2.2).trans h.1, h.2.1, fun k q hq => by rw [he.1 105 (by decide) h1.1, he.1 106 (by decide) h1.2.1]; exact h.2.2 k q hq⟩
def S_lfp : fSp := fun G As M R => match As with
  | [.ref 100, .int z] => ∃ (y : fYd) (br : Nat), G = f_GM ∧ f_HR 101 y M ∧ 1 ≤ y.1 ∧ y.1 ≤ 17 ∧ z = nI br ∧ br < 2 ^ 17 ∧ (∀ M', f_em [105, 106, 1017] M M' → f_PC M' (f_pc0 y.1 br) → R G none M')
  | _ => False
set_option maxRecDepth 20000 in
theorem m_lfp : f_Meets 5 (kX12_looksForPieces S_lo) S_lfp := by
  intro G As M R hsp X hX hW
  match As, hsp with
  | [.ref 100, .int z], ⟨y, br, hG, hH, h1, h17, hz, hbr, hsp⟩ =>
    subst hG; subst hz
    have loop : ∀ (n p f : Nat) (dn : List (Nat × Nat)) (M' : fMem), p + n = y.1 + 1 → f < p → dn.length + 1 ≤ p → dn ++ f_pcs y.1 br n p f = f_pc0 y.1 br → f_em [105, 106, 1017] M M' → f_PC M' dn → X f_GM 15 [some (.ref 100), some (.int (nI br)), some (.int (nI f)), some (.int (nI y.1)), some (.int (nI p))] [] M' := by
      intro n
      induction n with
      | zero =>
        intro p f dn M' hp hf hd he hM hP
        refine f_run_ok (stop := fun q => false) hX 20 _ _ _ _ _ ?_
        refine And.intro (fun _ => ?_) (fun z => absurd (nI_lt (by omega) (by omega)) z)
        have he : dn ++ [] = f_pc0 y.1 br := he
        rw [List.append_nil] at he
        rw [he] at hP
        exact hsp M' hM hP
      | succ n ih =>
        intro p f dn M' hp hf hd he hM hP
        have he : dn ++ (if p = y.1 ∨ br.testBit p = true then (f, p) :: f_pcs y.1 br n (p + 1) p else f_pcs y.1 br n (p + 1) f) = f_pc0 y.1 br := he
        have piece : (p = y.1 ∨ br.testBit p = true) → X f_GM 37 [some (.ref 100), some (.int (nI br)), some (.int (nI f)), some (.int (nI y.1)), some (.int (nI p))] [] M' := by
          intro h
          rw [if_pos h] at he
          have he2 : (dn ++ [(f, p)]) ++ f_pcs y.1 br n (p + 1) p = f_pc0 y.1 br := by rw [← he, List.append_assoc]; rfl
          have el : (dn ++ [(f, p)]).length = dn.length + 1 := by rw [List.length_append]; rfl
          obtain ⟨i1, i2⟩ := f_ix (n := 17) hP.1 (by omega) (by omega)
          refine f_run_ok (stop := fun q => Nat.beq q 15) hX 40 _ _ _ _ _ ?_
          refine And.intro i1 (And.intro i1 ?_)
          have q := ih (p + 1) p (dn ++ [(f, p)]) (f_up (f_up (f_up M'.1 105 (M'.1 100 17).toNatClampNeg (nI f)) 106 (M'.1 100 17).toNatClampNeg (nI p)) 100 17 (M'.1 100 17 + 1), M'.2) (by omega) (by omega) (by rw [el]; omega) he2 (((hM.up (c := 105) (by decide)).up (c := 106) (by decide)).uf (k := 17) (by decide)) ⟨by
            show M'.1 100 17 + 1 = _
            rw [hP.1, el, nI_succ], by rw [el]; omega, fun k q hq => by
            show (if k = (M'.1 100 17).toNatClampNeg then nI f else M'.1 105 k) = nI q.1 ∧ (if k = (M'.1 100 17).toNatClampNeg then nI p else M'.1 106 k) = nI q.2 ∧ q.1 < q.2 ∧ q.2 ≤ 17
            rw [i2]
            by_cases e : k = dn.length
            · rw [if_pos e, if_pos e]
              subst e
              rw [List.getElem?_append_right (Nat.le_refl _), Nat.sub_self] at hq
              cases hq
              exact ⟨rfl, rfl, hf, by show p ≤ 17; omega⟩
            · rw [if_neg e, if_neg e]
              have hlt := (List.getElem?_eq_some_iff.mp hq).1
              rw [List.getElem?_append_left (by omega)] at hq
              exact hP.2.2 k q hq⟩
          rw [nI_succ p] at q
          exact q
        refine f_run_ok (stop := fun q => Nat.beq q 15 || Nat.beq q 37) hX 40 _ _ _ _ _ ?_
        refine And.intro (fun z => absurd ((nI_ltI (by omega) (by omega)).mp z) (by omega)) (fun _ => ?_)
        refine And.intro (fun h => piece (Or.inl ((nI_eq (by omega) (by omega)).mp h))) (fun h => ?_)
        have h : ¬ p = y.1 := fun z => h (by rw [z])
        have eb := n_sb (n := br) (k := p) (by omega) (by omega)
        refine And.intro (fun h2 => ?_) (fun h2 => ?_)
        · have h2 : nI br >>> (nI p &&& 31) &&& 1 = 1 := h2
          rw [eb] at h2
          exact piece (Or.inr (f_b1.mp h2))
        · have h2 : ¬ nI br >>> (nI p &&& 31) &&& 1 = 1 := h2
          rw [eb] at h2
          have h2 : ¬ br.testBit p = true := fun z => h2 (f_b1.mpr z)
          rw [if_neg (fun z => z.elim h h2)] at he
          have q := ih (p + 1) f dn M' (by omega) (by omega) (by omega) he hM hP
          rw [nI_succ p] at q
          exact q
    refine f_run_ok (stop := fun q => Nat.beq q 15) hX 40 _ _ _ _ _ ?_
    refine ⟨y, rfl, hH.cg (show f_up M.1 100 17 0 101 = M.1 101 from f_up_ne (by decide)), ?_⟩
    exact loop y.1 1 0 [] _ (by omega) (by omega) (by show 0 + 1 ≤ 1; omega) rfl (f_em.rf.uf (by decide)) ⟨rfl, by show 0 ≤ 17; omega, fun k q hq => by simp at hq⟩
theorem f_pc0_q {L br : Nat} (hL : L ≤ 17) {k : Nat} {q : Nat × Nat} {M : fMem} (h : f_PC M (f_pc0 L br)) (hq : (f_pc0 L br)[k]? = some q) : q.1 < q.2 ∧ q.2 ≤ 17 := (h.2.2 k q hq).2.2
set_option maxRecDepth 20000 in
theorem m_y_piece : f_Meets 2 (kX12_piece S_lfp S_in S_lof) (f_y1 p_piece) := by
  intro G As M R hsp X hX hW
  match As, hsp with
  | [.ref 100, .int z], ⟨s, hG, hS, hR, hsp⟩ =>
    subst hG
    unfold p_piece at hsp
    have hL2 := hS.L2
    refine f_run_ok (stop := fun q => Nat.beq q 11) hX 40 _ _ _ _ _ ?_
    refine And.intro (v9 7 (by decide)) ⟨s.1.2.2, s.1.1 0 2, rfl, hR.hr, by omega, hS.L17, hR.br, hS.br, fun M1 he1 hP => ?_⟩
    have r1 := hR.em he1 (by decide)
    show X f_GM 11 [some (.ref 100), some (.int z)] [] M1
    generalize f_pc0 s.1.2.2.1 (s.1.1 0 2) = ps at *
    have hl := hP.2.1
    refine f_run_ok (stop := fun q => false) hX 40 _ _ _ _ _ ?_
    refine And.intro (fun h2 => ?_) (fun h2 => ?_)
    · have h2 : f_b (decide (0 ≤ z ∧ z ≤ M1.1 100 17 - 1)) = 0 := h2
      have h2 := of_decide_eq_false (f_b0.mp h2)
      rw [hP.1] at h2
      rw [if_neg (fun q => h2 ⟨q.1, (f_lt_pred (by omega) q.1).mpr q.2⟩)] at hsp
      exact hsp M1 r1
    · have h2 : ¬ f_b (decide (0 ≤ z ∧ z ≤ M1.1 100 17 - 1)) = 0 := h2
      have h2 := of_decide_eq_true (f_b_nt h2)
      rw [hP.1] at h2
      have h3 := (f_lt_pred (by omega) h2.1).mp h2.2
      rw [if_pos ⟨h2.1, h3⟩] at hsp
      have hk := f_nlt h2.1 h3 (by omega)
      have eg : ps[f_n z]? = some (ps.getD (f_n z) (0, 0)) := by rw [List.getD_eq_getElem?_getD, List.getElem?_eq_getElem hk]; rfl
      obtain ⟨g1, g2, g3, g4⟩ := hP.2.2 _ _ eg
      exact ⟨f_n z, _, _, rfl, (f_nn h2.1).symm, by omega, g1, g2, by omega, hsp M1 r1⟩
def f_SHM (M : fMem) (l : List Nat) : Prop := ∀ i x, l[i]? = some x → M.1 109 i = nI x ∧ x ≤ 17
def S_so : fSp := fun G As M R => match As with
  | [.ref 100, .int z] => ∃ (y : fYd) (br : Nat), G = f_GM ∧ f_HR 101 y M ∧ 1 ≤ y.1 ∧ y.1 ≤ 17 ∧ z = nI br ∧ br < 2 ^ 17 ∧ (∀ M', f_em [105, 106, 109, 1017] M M' → f_PC M' (f_pc0 y.1 br) → f_SHM M' (f_shp y.1 br) → R G none M')
  | _ => False
set_option maxRecDepth 20000 in
theorem m_so : f_Meets 4 (kX12_sorts S_lfp S_lof) S_so := by
  intro G As M R hsp X hX hW
  match As, hsp with
  | [.ref 100, .int z], ⟨y, br, hG, hH, h1, h17, hz, hbr, hsp⟩ =>
    subst hG; subst hz
    refine f_run_ok (stop := fun q => Nat.beq q 5) hX 20 _ _ _ _ _ ?_
    refine ⟨y, br, rfl, hH, h1, h17, rfl, hbr, fun M0 he0 hP0 => ?_⟩
    have hshp : f_shp y.1 br = f_srt ((f_pc0 y.1 br).map (fun q => q.2 - q.1)) := rfl
    rw [hshp] at hsp
    show X f_GM 5 [some (.ref 100), some (.int (nI br)), none, none] [] M0
    generalize f_pc0 y.1 br = ps at *
    have hpl := hP0.2.1
    have loop : ∀ (r dn : List (Nat × Nat)) (M' : fMem) (u : Option Value), dn ++ r = ps → f_em [109] M0 M' → f_SHM M' (f_srt (dn.map (fun q => q.2 - q.1))) → X f_GM 7 [some (.ref 100), some (.int (nI br)), some (.int (nI dn.length)), u] [] M' := by
      intro r
      induction r with
      | nil =>
        intro dn M' u hd he hs
        rw [List.append_nil] at hd
        subst hd
        have hP := hP0.em he (by decide)
        refine f_run_ok (stop := fun q => false) hX 20 _ _ _ _ _ ?_
        refine And.intro (fun _ => ?_) (fun z => ?_)
        · exact hsp M' ((he0.mono (by decide)).tr (he.mono (by decide))) hP hs
        · have z : ¬ M'.1 100 17 ≤ nI dn.length := z
          rw [hP.1] at z
          exact absurd (nI_le (Nat.le_refl _) (by omega)) z
      | cons q r ih =>
        intro dn M' u hd he hs
        have hpsl : ps.length = dn.length + (r.length + 1) := by rw [← hd, List.length_append]; rfl
        have hq : ps[dn.length]? = some q := by rw [← hd, List.getElem?_append_right (Nat.le_refl _), Nat.sub_self]; rfl
        obtain ⟨q1, q2, q3, q4⟩ := hP0.2.2 _ _ hq
        have hsd := f_srt_sd (dn.map (fun q => q.2 - q.1))
        have hll := f_srt_len (dn.map (fun q => q.2 - q.1))
        rw [List.length_map] at hll
        have hd2 : (dn ++ [q]) ++ r = ps := by rw [← hd, List.append_assoc]; rfl
        have el : (dn ++ [q]).length = dn.length + 1 := by rw [List.length_append]; rfl
        have hsa : f_srt ((dn ++ [q]).map (fun q => q.2 - q.1)) = f_ins (q.2 - q.1) (f_srt (dn.map (fun q => q.2 - q.1))) := by rw [List.map_append]; exact f_srt_app _ _
        generalize hl : f_srt (dn.map (fun q => q.2 - q.1)) = l at *
        have lb : ∀ j y, l[j]? = some y → y ≤ 17 := fun j y hj => (hs j y hj).2
        have fin : ∀ (s : Nat) (M' : fMem), s ≤ l.length → f_em [109] M0 M' → (∀ j y, j < s → l[j]? = some y → M'.1 109 j = nI y) → (∀ j y, s ≤ j → l[j]? = some y → M'.1 109 (j + 1) = nI y) → (∀ j y, s ≤ j → l[j]? = some y → q.2 - q.1 < y) → (∀ j y, j < s → l[j]? = some y → y ≤ q.2 - q.1) → X f_GM 57 [some (.ref 100), some (.int (nI br)), some (.int (nI dn.length)), some (.int (nI s))] [] M' := by
          intro s M' hsl he g1 g2 g3 g4
          obtain ⟨i1, i2⟩ := f_ix (z := nI s) (n := 17) rfl (by omega) (by omega)
          obtain ⟨p1, p2, p3, p4⟩ := (hP0.em he (by decide)).2.2 _ _ hq
          refine f_run_ok (stop := fun q => Nat.beq q 7) hX 30 _ _ _ _ _ ?_
          refine ⟨dn.length, q.1, q.2, rfl, rfl, by omega, p1, p2, by omega, And.intro i1 ?_⟩
          show X f_GM 7 [some (.ref 100), some (.int (nI br)), some (.int (nI dn.length + 1)), some (.int (nI s))] [] (f_up M'.1 109 (nI s).toNatClampNeg (nI (q.2 - q.1)), M'.2)
          rw [i2]
          have nx := ih (dn ++ [q]) (f_up M'.1 109 s (nI (q.2 - q.1)), M'.2) (some (.int (nI s))) hd2 (he.up (by decide)) (by
            rw [hsa, f_ins_split (q.2 - q.1) l s hsl g4 g3]
            intro j y hj
            show (if j = s then nI (q.2 - q.1) else M'.1 109 j) = nI y ∧ y ≤ 17
            rcases f_getElem_ins l s (q.2 - q.1) hsl j y hj with ⟨c1, c2⟩ | ⟨c1, c2⟩ | ⟨c1, c2⟩
            · rw [if_neg (by omega)]
              exact ⟨g1 j y c1 c2, lb _ _ c2⟩
            · rw [if_pos c1, c2]
              exact ⟨rfl, by omega⟩
            · rw [if_neg (by omega)]
              have := g2 (j - 1) y (by omega) c2
              rw [show j - 1 + 1 = j by omega] at this
              exact ⟨this, lb _ _ c2⟩)
          rw [el, nI_succ] at nx
          exact nx
        have inner : ∀ (s : Nat) (M' : fMem), s ≤ l.length → f_em [109] M0 M' → (∀ j y, j < s → l[j]? = some y → M'.1 109 j = nI y) → (∀ j y, s ≤ j → l[j]? = some y → M'.1 109 (j + 1) = nI y) → (∀ j y, s ≤ j → l[j]? = some y → q.2 - q.1 < y) → X f_GM 17 [some (.ref 100), some (.int (nI br)), some (.int (nI dn.length)), some (.int (nI s))] [] M' := by
          intro s
          induction s with
          | zero =>
            intro M' hsl he g1 g2 g3
            refine f_run_ok (stop := fun q => Nat.beq q 57) hX 30 _ _ _ _ _ ?_
            refine And.intro (fun _ => ?_) (fun z => absurd (show nI 0 ≤ 0 by decide) z)
            exact fin 0 M' hsl he g1 g2 g3 (fun j y hj => by omega)
          | succ s ih2 =>
            intro M' hsl he g1 g2 g3
            obtain ⟨y0, hy0⟩ : ∃ y0, l[s]? = some y0 := ⟨l[s], List.getElem?_eq_getElem (by omega)⟩
            have hy17 := lb _ _ hy0
            have em : nI (s + 1) - 1 = nI s := nI_pred s
            obtain ⟨i1, i2⟩ := f_ix (n := 17) em (by omega) (by omega)
            obtain ⟨j1, j2⟩ := f_ix (z := nI (s + 1)) (n := 17) rfl (by omega) (by omega)
            obtain ⟨p1, p2, p3, p4⟩ := (hP0.em he (by decide)).2.2 _ _ hq
            have ea : M'.1 109 (nI (s + 1) - 1).toNatClampNeg = nI y0 := by rw [i2]; exact g1 s y0 (by omega) hy0
            refine f_run_ok (stop := fun q => Nat.beq q 57 || Nat.beq q 17) hX 40 _ _ _ _ _ ?_
            refine And.intro (fun h => absurd h (nI_nle (by omega) (by omega))) (fun _ => ?_)
            refine And.intro i1 ⟨dn.length, q.1, q.2, rfl, rfl, by omega, p1, p2, by omega, ?_⟩
            refine And.intro (fun h => ?_) (fun h => ?_)
            · have h : M'.1 109 (nI (s + 1) - 1).toNatClampNeg ≤ nI (q.2 - q.1) := h
              rw [ea] at h
              have h := (nI_leI (by omega) (by omega)).mp h
              refine fin (s + 1) M' hsl he g1 g2 g3 (fun j y hj hy => ?_)
              have := hsd j s y y0 (by omega) hy hy0
              omega
            · have h : ¬ M'.1 109 (nI (s + 1) - 1).toNatClampNeg ≤ nI (q.2 - q.1) := h
              rw [ea] at h
              have h : ¬ y0 ≤ q.2 - q.1 := fun z => h (nI_le z (by omega))
              refine And.intro i1 (And.intro j1 ?_)
              show X f_GM 17 [some (.ref 100), some (.int (nI br)), some (.int (nI dn.length)), some (.int (nI (s + 1) + (-1)))] [] (f_up M'.1 109 (nI (s + 1)).toNatClampNeg (M'.1 109 (nI (s + 1) - 1).toNatClampNeg), M'.2)
              rw [ea, j2, pk_m1]
              refine ih2 _ (by omega) (he.up (by decide)) (fun j y hj hy => ?_) (fun j y hj hy => ?_) (fun j y hj hy => ?_)
              · show (if j = s + 1 then nI y0 else M'.1 109 j) = nI y
                rw [if_neg (by omega)]
                exact g1 j y (by omega) hy
              · show (if j + 1 = s + 1 then nI y0 else M'.1 109 (j + 1)) = nI y
                by_cases e : j = s
                · rw [if_pos (by omega)]
                  subst e
                  rw [hy0] at hy
                  cases hy
                  rfl
                · rw [if_neg (by omega)]
                  exact g2 j y (by omega) hy
              · by_cases e : j = s
                · subst e
                  rw [hy0] at hy
                  cases hy
                  omega
                · exact g3 j y (by omega) hy
        have hP := hP0.em he (by decide)
        refine f_run_ok (stop := fun q => Nat.beq q 17) hX 30 _ _ _ _ _ ?_
        refine And.intro (fun z => ?_) (fun _ => ?_)
        · have z : M'.1 100 17 ≤ nI dn.length := z
          rw [hP.1] at z
          exact absurd ((nI_leI (by omega) (by omega)).mp z) (by omega)
        · have q := inner dn.length M' (by omega) he (fun j y _ hy => (hs j y hy).1) (fun j y hj hy => by
            have := (List.getElem?_eq_some_iff.mp hy).1
            omega) (fun j y hj hy => by
            have := (List.getElem?_eq_some_iff.mp hy).1
            omega)
          exact q
    refine f_run_ok (stop := fun q => Nat.beq q 7) hX 20 _ _ _ _ _ ?_
    exact loop ps [] M0 none rfl f_em.rf (fun i x hx => by simp [f_srt] at hx)
