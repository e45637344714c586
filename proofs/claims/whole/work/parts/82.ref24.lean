/-! ===== the reference: puts, takes, lost ===== -/
theorem f_CR.sx {s : fCo} {M M' : fMem} (h : f_CR 101 s M) (h4 : s.1 0 5 ≤ 4) (e : ∀ k, k ≠ 3 → (k < 55 ∨ 59 ≤ k) → M'.1 101 k = M.1 101 k) (e3 : M'.1 101 3 = nI (s.1 0 5)) (e6 : ∀ i, i < s.1 0 5 → M'.1 101 (55 + i) = nI (s.1 6 i)) : f_CR 101 s M' := by
  obtain ⟨⟨a1, a2, a3, a4, a5, a6, a7, a8⟩, ⟨b1, b2, b3, b4, b5, b6, b7⟩, c0⟩ := h
  exact ⟨⟨(e _ (by omega) (by omega)).trans a1, (e _ (by omega) (by omega)).trans a2, (e _ (by omega) (by omega)).trans a3, (e _ (by omega) (by omega)).trans a4, (e _ (by omega) (by omega)).trans a5, (e _ (by omega) (by omega)).trans a6, e3, (e _ (by omega) (by omega)).trans a8⟩, ⟨fun i hi => (e _ (by omega) (by omega)).trans (b1 i hi), fun i hi => (e _ (by omega) (by omega)).trans (b2 i hi), fun i hi => (e _ (by omega) (by omega)).trans (b3 i hi), fun i hi => (e _ (by omega) (by omega)).trans (b4 i hi), fun i hi => (e _ (by omega) (by omega)).trans (b5 i hi), e6, fun i hi => (e _ (by omega) (by omega)).trans (b7 i hi)⟩, c0.cgi (fun k hk => e k (by omega) (by omega))⟩
theorem f_RM.sx {ls : List Nat} {s : fSt} {M M' : fMem} (h : f_RM s M) (he : f_em ls M M') (h1 : 102 ∉ ls ∧ 116 ∉ ls ∧ 1003 ∉ ls ∧ 1035 ∉ ls) (hc : f_CR 101 s.1 M') : f_RM s M' := by
  obtain ⟨a, b, c, d1, d2⟩ := h
  obtain ⟨g2, g3, g4, g5⟩ := h1
  exact ⟨hc, (he.2.2.1 3 g4).trans b, fun k hk => (c k hk).cg (he.1 102 (by decide) g2), (he.2.2.1 35 g5).trans d1, fun i y hi hy => by rw [he.1 116 (by decide) g3]; exact d2 i y hi hy⟩
def S_pts : fSp := fun G As M R => match As with
  | [.ref 100, .int za, .int zl] => ∃ n m : Nat, G = f_GM ∧ M.1 101 3 = nI n ∧ n < 4 ∧ za = nI m ∧ m ≤ n ∧ (∀ M', f_em [101] M M' → (∀ k, k ≠ 3 → (k < 55 ∨ 59 ≤ k) → M'.1 101 k = M.1 101 k) → M'.1 101 3 = nI (n + 1) → (∀ i, i < m → M'.1 101 (55 + i) = M.1 101 (55 + i)) → M'.1 101 (55 + m) = zl → (∀ i, m ≤ i → i < n → M'.1 101 (55 + (i + 1)) = M.1 101 (55 + i)) → R G none M')
  | _ => False
set_option maxRecDepth 20000 in
theorem m_pts : f_Meets 4 kX12_puts S_pts := by
  intro G As M R hsp X hX hW
  match As, hsp with
  | [.ref 100, .int za, .int zl], ⟨n, m, hG, h3, hn, hza, hm, hsp⟩ =>
    subst hG; subst hza
    have loop : ∀ (t k : Nat) (M' : fMem), k = m + t → k ≤ n → f_em [101] M M' → (∀ j, j ≠ 3 → (j < 55 ∨ 59 ≤ j) → M'.1 101 j = M.1 101 j) → M'.1 101 3 = nI n → (∀ i, i < k → M'.1 101 (55 + i) = M.1 101 (55 + i)) → (∀ i, k ≤ i → i < n → M'.1 101 (55 + (i + 1)) = M.1 101 (55 + i)) → X f_GM 7 [some (.ref 100), some (.int (nI m)), some (.int zl), some (.int (nI k))] [] M' := by
      intro t
      induction t with
      | zero =>
        intro k M' hk hkn he h1 h2 h4 h5
        have hk : k = m := by omega
        subst hk
        obtain ⟨i1, i2⟩ := f_ix (z := 55 + nI k) (n := 906) (nI_add 55 k) (by omega) (by omega)
        refine f_run_ok (stop := fun q => Nat.beq q 48) hX 40 _ _ _ _ _ ?_
        refine And.intro (fun _ => And.intro i1 ?_) (fun z => absurd (nI_le (Nat.le_refl k) (by omega)) z)
        show X f_GM 48 [some (.ref 100), some (.int (nI k)), some (.int zl), some (.int (nI k))] [] (f_up M'.1 101 (55 + nI k).toNatClampNeg zl, M'.2)
        rw [i2]
        have e3 : f_up M'.1 101 (55 + k) zl 101 3 = nI n := (f_upo (by omega)).trans h2
        refine f_run_ok (stop := fun q => false) hX 40 _ _ _ _ _ ?_
        refine And.intro (v9 3 (by decide)) (And.intro (v9 3 (by decide)) ?_)
        show R f_GM none (f_up (f_up M'.1 101 (55 + k) zl) 101 3 (f_up M'.1 101 (55 + k) zl 101 3 + 1), M'.2)
        rw [e3]
        refine hsp _ ((he.up (c := 101) (k := 55 + k) (v := zl) (by decide)).up (c := 101) (k := 3) (v := nI n + 1) (by decide)) (fun j j1 j2 => ?_) ?_ (fun i hi => ?_) ?_ (fun i hi hi2 => ?_)
        · exact (f_upo (by omega)).trans ((f_upo (by omega)).trans (h1 j j1 j2))
        · show f_up (f_up M'.1 101 (55 + k) zl) 101 3 (nI n + 1) 101 3 = _
          rw [nI_succ]; exact f_ups
        · exact (f_upo (by omega)).trans ((f_upo (by omega)).trans (h4 i hi))
        · show f_up (f_up M'.1 101 (55 + k) zl) 101 3 (nI n + 1) 101 (55 + k) = zl
          exact (f_upo (by omega)).trans f_ups
        · exact (f_upo (by omega)).trans ((f_upo (by omega)).trans (h5 i hi hi2))
      | succ t ih =>
        intro k M' hk hkn he h1 h2 h4 h5
        obtain ⟨j, rfl⟩ : ∃ j, k = j + 1 := ⟨k - 1, by omega⟩
        obtain ⟨i1, i2⟩ := f_ix (z := 55 + nI (j + 1)) (k := 55 + (j + 1)) (n := 906) (nI_add 55 (j + 1)) (by omega) (by omega)
        have ez : 55 + nI (j + 1) - 1 = nI (55 + j) := by
          rw [show 55 + nI (j + 1) = nI (55 + (j + 1)) from nI_add 55 (j + 1)]
          exact nI_pred _
        obtain ⟨j1, j2⟩ := f_ix (n := 906) ez (by omega) (by omega)
        refine f_run_ok (stop := fun q => Nat.beq q 7) hX 60 _ _ _ _ _ ?_
        refine And.intro (fun z => absurd ((nI_leI (by omega) (by omega)).mp z) (by omega)) (fun _ => And.intro j1 (And.intro i1 ?_))
        have em : nI (j + 1) + (-1) = nI j := pk_m1 j
        show X f_GM 7 [some (.ref 100), some (.int (nI m)), some (.int zl), some (.int (nI (j + 1) + (-1)))] [] (f_up M'.1 101 (55 + nI (j + 1)).toNatClampNeg (M'.1 101 (55 + nI (j + 1) - 1).toNatClampNeg), M'.2)
        rw [em, i2, j2]
        refine ih j _ (by omega) (by omega) (he.up (c := 101) (by decide)) (fun x x1 x2 => ?_) ?_ (fun i hi => ?_) (fun i hi hi2 => ?_)
        · exact (f_upo (by omega)).trans (h1 x x1 x2)
        · exact (f_upo (by omega)).trans h2
        · exact (f_upo (by omega)).trans (h4 i (by omega))
        · by_cases e : i = j
          · subst e
            show f_up M'.1 101 (55 + (i + 1)) _ 101 (55 + (i + 1)) = _
            rw [f_ups]
            exact h4 i (by omega)
          · exact (f_upo (by omega)).trans (h5 i (by omega) hi2)
    refine f_run_ok (stop := fun q => Nat.beq q 7) hX 40 _ _ _ _ _ ?_
    refine And.intro (v9 3 (by decide)) ?_
    show X f_GM 7 [some (.ref 100), some (.int (nI m)), some (.int zl), some (.int (M.1 101 3))] [] M
    rw [h3]
    exact loop (n - m) n M (by omega) (Nat.le_refl _) f_em.rf (fun _ _ _ => rfl) h3 (fun _ _ => rfl) (fun i h1 h2 => by omega)
def S_tak : fSp := fun G As M R => match As with
  | [.ref 100, .int za] => ∃ n m : Nat, G = f_GM ∧ M.1 101 3 = nI (n + 1) ∧ n < 4 ∧ za = nI m ∧ m ≤ n ∧ (∀ M', f_em [101] M M' → (∀ k, k ≠ 3 → (k < 55 ∨ 59 ≤ k) → M'.1 101 k = M.1 101 k) → M'.1 101 3 = nI n → (∀ i, i < m → M'.1 101 (55 + i) = M.1 101 (55 + i)) → (∀ i, m ≤ i → i < n → M'.1 101 (55 + i) = M.1 101 (55 + (i + 1))) → R G none M')
  | _ => False
set_option maxRecDepth 20000 in
theorem m_tak : f_Meets 3 kX12_takes S_tak := by
  intro G As M R hsp X hX hW
  match As, hsp with
  | [.ref 100, .int za], ⟨n, m, hG, h3, hn, hza, hm, hsp⟩ =>
    subst hG; subst hza
    have loop : ∀ (t k : Nat) (M' : fMem), k + t = n → m ≤ k → f_em [101] M M' → (∀ j, j ≠ 3 → (j < 55 ∨ 59 ≤ j) → M'.1 101 j = M.1 101 j) → M'.1 101 3 = nI n → (∀ i, i < m → M'.1 101 (55 + i) = M.1 101 (55 + i)) → (∀ i, m ≤ i → i < k → M'.1 101 (55 + i) = M.1 101 (55 + (i + 1))) → (∀ i, k ≤ i → M'.1 101 (55 + i) = M.1 101 (55 + i)) → X f_GM 12 [some (.ref 100), some (.int (nI m)), some (.int (nI k))] [] M' := by
      intro t
      induction t with
      | zero =>
        intro k M' hk hmk he h1 h2 h4 h5 h6
        have hk : k = n := by omega
        subst hk
        refine f_run_ok (stop := fun q => false) hX 40 _ _ _ _ _ ?_
        refine And.intro (v9 3 (by decide)) (And.intro (fun _ => hsp M' he h1 h2 h4 h5) (fun z => ?_))
        have z : ¬ M'.1 101 3 ≤ nI k := z
        rw [h2] at z
        exact absurd (Int32.le_refl _) z
      | succ t ih =>
        intro k M' hk hmk he h1 h2 h4 h5 h6
        obtain ⟨i1, i2⟩ := f_ix (z := 55 + nI k) (k := 55 + k) (n := 906) (nI_add 55 k) (by omega) (by omega)
        have ez : 55 + nI k + 1 = nI (55 + (k + 1)) := by
          rw [show 55 + nI k = nI (55 + k) from nI_add 55 k]
          exact (nI_succ _).symm
        obtain ⟨j1, j2⟩ := f_ix (n := 906) ez (by omega) (by omega)
        refine f_run_ok (stop := fun q => Nat.beq q 12) hX 60 _ _ _ _ _ ?_
        refine And.intro (v9 3 (by decide)) (And.intro (fun z => ?_) (fun _ => And.intro j1 (And.intro i1 ?_)))
        · have z : M'.1 101 3 ≤ nI k := z
          rw [h2] at z
          exact absurd ((nI_leI (by omega) (by omega)).mp z) (by omega)
        show X f_GM 12 [some (.ref 100), some (.int (nI m)), some (.int (nI k + 1))] [] (f_up M'.1 101 (55 + nI k).toNatClampNeg (M'.1 101 (55 + nI k + 1).toNatClampNeg), M'.2)
        rw [i2, j2, ← nI_succ]
        refine ih (k + 1) _ (by omega) (by omega) (he.up (c := 101) (by decide)) (fun x x1 x2 => ?_) ?_ (fun i hi => ?_) (fun i hi hi2 => ?_) (fun i hi => ?_)
        · exact (f_upo (by omega)).trans (h1 x x1 x2)
        · exact (f_upo (by omega)).trans h2
        · exact (f_upo (by omega)).trans (h4 i hi)
        · by_cases e : i = k
          · subst e
            show f_up M'.1 101 (55 + i) _ 101 (55 + i) = _
            rw [f_ups]
            exact h6 (i + 1) (by omega)
          · exact (f_upo (by omega)).trans (h5 i hi (by omega))
        · exact (f_upo (by omega)).trans (h6 i (by omega))
    refine f_run_ok (stop := fun q => Nat.beq q 12) hX 40 _ _ _ _ _ ?_
    refine And.intro (v9 3 (by decide)) (And.intro (v9 3 (by decide)) ?_)
    show X f_GM 12 [some (.ref 100), some (.int (nI m)), some (.int (nI m))] [] (f_up M.1 101 3 (M.1 101 3 - 1), M.2)
    rw [h3, show nI (n + 1) - 1 = nI n from nI_pred n]
    exact loop (n - m) m _ (by omega) (Nat.le_refl _) (f_em.rf.up (c := 101) (by decide)) (fun j j1 _ => by show f_up M.1 101 3 (nI n) 101 j = _; exact f_upo j1) (by show f_up M.1 101 3 (nI n) 101 3 = _; exact f_ups) (fun i hi => by show f_up M.1 101 3 (nI n) 101 (55 + i) = _; exact f_upo (by omega)) (fun i h1 h2 => by omega) (fun i _ => by show f_up M.1 101 3 (nI n) 101 (55 + i) = _; exact f_upo (by omega))
theorem f_MB.sx {M M' : fMem} {y : fYd} {b kd v : Nat} {row : Nat → Nat} (h : f_MB M y b kd v row) (e : ∀ k, k ≠ 3 → (k < 55 ∨ 59 ≤ k) → M'.1 101 k = M.1 101 k) : f_MB M' y b kd v row := by
  obtain ⟨a1, a2, a3, a4, a5, a6, a7, a8, a9, a10, a11⟩ := h
  exact ⟨a1.cgi (fun k hk => e k (by omega) (by omega)), a2, a3, a4, a5, a6, (e _ (by omega) (by omega)).trans a7, a8, (e _ (by omega) (by omega)).trans a9, a10, fun j hj => ⟨(e _ (by omega) (by omega)).trans (a11 j hj).1, (a11 j hj).2⟩⟩
set_option maxRecDepth 20000 in
theorem m_y_lost : f_Meets 6 (kX12_lost S_yB S_lo S_pts S_lfo S_tak) (f_y1 p_lost) := by
  intro G As M R hsp X hX hW
  match As, hsp with
  | [.ref 100, .int b], ⟨s, hG, hS, hR, hsp⟩ =>
    subst hG
    unfold p_lost at hsp
    have hsn := hS.sn
    have hL17 := hS.L17
    refine f_run_ok (stop := fun q => Nat.beq q 10) hX 40 _ _ _ _ _ ?_
    refine ⟨s.1.1 0 0, rfl, by have := hS.nb; omega, hR.nb, ?_⟩
    rw [f_ngM]
    cases hb : f_ng b s with
    | false =>
      rw [if_pos hb] at hsp
      exact And.intro (fun _ => hsp M hR) (fun z => absurd rfl z)
    | true =>
      rw [if_neg (by rw [hb]; decide)] at hsp
      obtain ⟨b1, b2, b3⟩ := f_ng_t hS hb
      refine And.intro (fun z => absurd z (by decide)) (fun _ => ?_)
      generalize f_n b = B at *
      subst b3
      have hsm : ∀ k, k ≤ s.1.1 0 5 → f_sm k (s.1.1 6) ≤ k * 17 := fun k hk => f_sm_le k (fun x hx => (hS.si x (by omega)).2)
      -- what is lacking
      have first : (∀ z : Int32, z = nI s.1.2.2.1 - nI (f_sm (s.1.1 0 5) (s.1.1 6)) → X f_GM 45 [some (.ref 100), some (.int (nI B)), some (.int z), some (.int (nI (s.1.1 0 5))), none, none] [] M) → X f_GM 10 [some (.ref 100), some (.int (nI B)), none, none, none, none] [] M := by
        intro K
        have loop : ∀ (t k : Nat), k + t = s.1.1 0 5 → X f_GM 17 [some (.ref 100), some (.int (nI B)), some (.int (nI s.1.2.2.1 - nI (f_sm k (s.1.1 6)))), some (.int (nI k)), none, none] [] M := by
          intro t
          induction t with
          | zero =>
            intro k hk
            have hk : k = s.1.1 0 5 := by omega
            refine f_run_ok (stop := fun q => Nat.beq q 45) hX 40 _ _ _ _ _ ?_
            refine And.intro (v9 3 (by decide)) (And.intro (fun _ => ?_) (fun z => ?_))
            · rw [hk]; exact K _ rfl
            · have z : ¬ M.1 101 3 ≤ nI k := z
              rw [hR.sn, hk] at z
              exact absurd (Int32.le_refl _) z
          | succ t ih =>
            intro k hk
            obtain ⟨i1, i2⟩ := f_ix (z := 55 + nI k) (k := 55 + k) (n := 906) (nI_add 55 k) (by omega) (by omega)
            have q := ih (k + 1) (by omega)
            refine f_run_ok (stop := fun q => Nat.beq q 17) hX 60 _ _ _ _ _ ?_
            refine And.intro (v9 3 (by decide)) (And.intro (fun z => ?_) (fun _ => And.intro i1 ?_))
            · have z : M.1 101 3 ≤ nI k := z
              rw [hR.sn] at z
              exact absurd ((nI_leI (by omega) (by omega)).mp z) (by omega)
            show X f_GM 17 [some (.ref 100), some (.int (nI B)), some (.int (nI s.1.2.2.1 - nI (f_sm k (s.1.1 6)) - M.1 101 (55 + nI k).toNatClampNeg)), some (.int (nI k + 1)), none, none] [] M
            rw [i2, hR.si k (by omega), ← nI_succ]
            have e : nI s.1.2.2.1 - nI (f_sm k (s.1.1 6)) - nI (s.1.1 6 k) = nI s.1.2.2.1 - nI (f_sm (k + 1) (s.1.1 6)) := by
              rw [show f_sm (k + 1) (s.1.1 6) = f_sm k (s.1.1 6) + s.1.1 6 k from rfl, ← nI_add]
              refine Int32.toBitVec_inj.mp ?_
              show (nI s.1.2.2.1).toBitVec - (nI (f_sm k (s.1.1 6))).toBitVec - (nI (s.1.1 6 k)).toBitVec = (nI s.1.2.2.1).toBitVec - ((nI (f_sm k (s.1.1 6))).toBitVec + (nI (s.1.1 6 k)).toBitVec)
              rw [BitVec.sub_sub]
            rw [e]
            exact q
        refine f_run_ok (stop := fun q => Nat.beq q 17) hX 40 _ _ _ _ _ ?_
        refine ⟨s.1.2.2, rfl, hR.hr, ?_⟩
        have q := loop (s.1.1 0 5) 0 (by omega)
        have e : nI s.1.2.2.1 - nI (f_sm 0 (s.1.1 6)) = nI s.1.2.2.1 := by
          show nI s.1.2.2.1 - 0 = _
          refine Int32.toBitVec_inj.mp ?_
          show (nI s.1.2.2.1).toBitVec - 0#32 = _
          rw [BitVec.sub_zero]
        rw [e] at q
        exact q
      refine first (fun z hz => ?_)
      have hle := hsm (s.1.1 0 5) (Nat.le_refl _)
      have hpos : z ≤ 0 ↔ s.1.2.2.1 ≤ f_sm (s.1.1 0 5) (s.1.1 6) := by
        rw [hz, Int32.le_iff_toInt_le, pk_sub_toInt (by omega) (by omega), Int32.toInt_zero]
        omega
      have none0 : s.1.2.2.1 ≤ f_sm (s.1.1 0 5) (s.1.1 6) ∨ 4 ≤ s.1.1 0 5 → X f_GM 70 [some (.ref 100), some (.int (nI B)), some (.int z), some (.int 0), none, none] [] M := by
        intro h
        rw [if_pos h] at hsp
        exact f_run_ok (stop := fun _ => false) hX 40 _ _ _ _ _ (And.intro (fun _ => hsp M hR) (fun z => absurd (show (-1 : Int32) < 0 by decide) z))
      refine f_run_ok (stop := fun q => Nat.beq q 70 || Nat.beq q 76) hX 60 _ _ _ _ _ ?_
      refine And.intro (fun h => none0 (Or.inl (hpos.mp h))) (fun h => And.intro (v9 3 (by decide)) (And.intro (fun h2 => ?_) (fun h2 => And.intro (v9 3 (by decide)) ?_)))
      · have h2 : 4 ≤ M.1 101 3 := h2
        rw [hR.sn] at h2
        exact none0 (Or.inr ((nI_leI (a := 4) (by omega) (by omega)).mp h2))
      have h2 : ¬ 4 ≤ M.1 101 3 := h2
      rw [hR.sn] at h2
      have hn4 : ¬ 4 ≤ s.1.1 0 5 := fun e => h2 (nI_le (a := 4) e (by omega))
      have hlt : ¬ s.1.2.2.1 ≤ f_sm (s.1.1 0 5) (s.1.1 6) := fun e => h (hpos.mpr e)
      rw [if_neg (by omega)] at hsp
      clear none0 first
      show X f_GM 76 [some (.ref 100), some (.int (nI B)), some (.int z), some (.int 0), some (.int (M.1 101 3)), some (.int 0)] [] M
      rw [hR.sn]
      rw [pk_sub (by omega)] at hz
      unfold f_lst at hsp
      obtain ⟨lack, hlk⟩ : ∃ k, s.1.2.2.1 - f_sm (s.1.1 0 5) (s.1.1 6) = k := ⟨_, rfl⟩
      rw [hlk] at hsp hz
      subst hz
      generalize hP : (fun p => decide (0 < (f_fol (f_mb s.1 B) s.1.2.2.1 s.1.2.2.2.1 (f_insr (s.1.1 6) p lack) (s.1.1 0 5 + 1)).1)) = P at hsp
      have hPx : ∀ p, P p = decide (0 < (f_fol (f_mb s.1 B) s.1.2.2.1 s.1.2.2.2.1 (f_insr (s.1.1 6) p lack) (s.1.1 0 5 + 1)).1) := fun p => by rw [← hP]
      have loop : ∀ (t j : Nat) (M1 : fMem), j + t = s.1.1 0 5 + 1 → f_RM s M1 → X f_GM 76 [some (.ref 100), some (.int (nI B)), some (.int (nI lack)), some (.int (nI (f_bits j P))), some (.int (nI (s.1.1 0 5))), some (.int (nI j))] [] M1 := by
        intro t
        induction t with
        | zero =>
          intro j M1 hj r1
          refine f_run_ok (stop := fun q => false) hX 40 _ _ _ _ _ ?_
          refine And.intro (fun h => ?_) (fun h => absurd (nI_lt (by omega) (by omega)) h)
          exact f_fin (hsp M1 r1) (by rw [show j = s.1.1 0 5 + 1 by omega]; rfl) rfl
        | succ t ih =>
          intro j M1 hj r1
          have hb32 : f_bits j P < 2 ^ 17 := Nat.lt_of_lt_of_le (f_bits_lt P j) (Nat.pow_le_pow_right (by decide) (by omega))
          refine f_run_ok (stop := fun q => Nat.beq q 90) hX 40 _ _ _ _ _ ?_
          refine And.intro (fun h => absurd ((nI_ltI (by omega) (by omega)).mp h) (by omega)) (fun _ => ?_)
          refine ⟨s.1.1 0 5, j, rfl, r1.sn, by omega, rfl, by omega, fun M2 he2 u1 u2 u3 u4 u5 => ?_⟩
          refine f_run_ok (stop := fun q => Nat.beq q 95) hX 40 _ _ _ _ _ ?_
          refine ⟨s.1.2.2, B, _, _, _, s.1.1 0 5 + 1, f_insr (s.1.1 6) j lack, rfl, (r1.mb hS b2).sx u1, hS.c1, hS.c3, rfl, u2, by omega, fun i hi => ?_, fun i hi => ?_, fun M3 t3 he3 h33 _ _ => ?_⟩
          · unfold f_insr
            by_cases c1 : i < j
            · rw [if_pos c1, u3 i c1]; exact r1.si i (by omega)
            · rw [if_neg c1]
              by_cases c2 : i = j
              · rw [if_pos c2, c2]; exact u4
              · rw [if_neg c2]
                obtain ⟨i', rfl⟩ : ∃ i', i = i' + 1 := ⟨i - 1, by omega⟩
                rw [u5 i' (by omega) (by omega)]
                exact r1.si i' (by omega)
          · unfold f_insr
            split
            · exact hS.si i (by omega)
            · split
              · omega
              · exact hS.si (i - 1) (by omega)
          · have h33 : M3.1 100 33 = nI (f_fol (f_mb s.1 B) s.1.2.2.1 s.1.2.2.2.1 (f_insr (s.1.1 6) j lack) (s.1.1 0 5 + 1)).1 := h33
            have hfl := (f_fol_le (f_mb s.1 B) s.1.2.2.1 s.1.2.2.2.1 (f_insr (s.1.1 6) j lack) (s.1.1 0 5 + 1)).1
            have e3 : M3.1 101 = M2.1 101 := he3.1 101 (by decide) (by decide)
            -- and back
            have back : ∀ w : Nat, f_bits j P ||| w = f_bits (j + 1) P → X f_GM 111 [some (.ref 100), some (.int (nI B)), some (.int (nI lack)), some (.int (nI (f_bits j P))), some (.int (nI (s.1.1 0 5))), some (.int (nI j))] [.int (nI w), .int (nI (f_bits j P))] M3 := by
              intro w hw
              refine f_run_ok (stop := fun q => Nat.beq q 119) hX 40 _ _ _ _ _ ?_
              refine ⟨s.1.1 0 5, j, rfl, by rw [e3]; exact u2, by omega, rfl, by omega, fun M4 he4 w1 w2 w3 w4 => ?_⟩
              have e14 : f_em (101 :: f_LOL) M1 M4 := ((he2.mono (ls' := 101 :: f_LOL) (by decide)).tr (he3.mono (ls' := 101 :: f_LOL) (by decide))).tr (he4.mono (ls' := 101 :: f_LOL) (by decide))
              have r4 : f_RM s M4 := r1.sx e14 (by decide) (r1.1.sx hsn (fun k k1 k2 => by rw [w1 k k1 k2, e3]; exact u1 k k1 k2) w2 (fun i hi => by
                by_cases c1 : i < j
                · rw [w3 i c1, e3, u3 i c1]; exact r1.si i hi
                · rw [w4 i (by omega) hi, e3, u5 i (by omega) hi]; exact r1.si i hi))
              have q := ih (j + 1) M4 (by omega) r4
              rw [nI_succ, ← hw, ← fa_or] at q
              exact f_run_ok (stop := fun q => Nat.beq q 76) hX 40 _ _ _ _ _ q
            refine f_run_ok (stop := fun q => Nat.beq q 111) hX 40 _ _ _ _ _ ?_
            refine And.intro (fun h => ?_) (fun h => ?_)
            · have h : M3.1 100 33 ≤ 0 := h
              rw [h33] at h
              have h := (f_pos_nI (by omega)).mp h
              exact back 0 (by rw [f_bits_no P j (by rw [hPx, h]; rfl), Nat.or_zero])
            · have h : ¬ M3.1 100 33 ≤ 0 := h
              rw [h33] at h
              have h : ¬ (f_fol (f_mb s.1 B) s.1.2.2.1 s.1.2.2.2.1 (f_insr (s.1.1 6) j lack) (s.1.1 0 5 + 1)).1 = 0 := fun z => h ((f_pos_nI (by omega)).mpr z)
              have q := back (2 ^ j) (by rw [f_bits_or P j (by rw [hPx]; exact decide_eq_true (by omega))])
              rw [← n_shl (by omega)] at q
              exact q
      exact loop (s.1.1 0 5 + 1) 0 M (by omega) hR
