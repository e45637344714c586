/-! ===== the reference: looked, count, trace, as, image, undo, stair ===== -/
set_option maxRecDepth 20000 in
theorem m_y_looked : f_Meets 3 (kX12_looked S_closing) (f_y0 p_looked) := by
  intro G As M R hsp X hX hW
  match As, hsp with
  | [.ref 100], ⟨s, hG, hS, hR, hsp⟩ =>
    subst hG
    unfold p_looked at hsp
    have hbk := hS.bk
    have hbb := hS.1.2.2.2.2.2.2.2.1
    have hb3 := hS.1.2.2.2.2.2.2.2.2.1
    have loop : ∀ (t i : Nat) (u : Option Value), i + t = s.1.1 0 6 → f_lok (s.1.1 7) t i = f_lok (s.1.1 7) (s.1.1 0 6) 0 → X f_GM 2 [some (.ref 100), some (.int (nI i)), u] [] M := by
      intro t
      induction t with
      | zero =>
        intro i u hi he
        refine f_run_ok (stop := fun q => false) hX 40 _ _ _ _ _ ?_
        refine And.intro (v9 4 (by decide)) (And.intro (fun h => ?_) (fun h => ?_))
        · exact f_fin (hsp M hR) (by rw [← he]; rfl) rfl
        · have h : ¬ M.1 101 4 ≤ nI i := h
          rw [hR.bk] at h
          exact absurd (nI_le (by omega) (by omega)) h
      | succ t ih =>
        intro i u hi he
        have he : (if f_clz (s.1.1 7 (i * 4)) (s.1.1 7 (i * 4 + 1)) (s.1.1 7 (i * 4 + 2)) = decide (s.1.1 7 (i * 4 + 3) = 1) then f_lok (s.1.1 7) t (i + 1) else nI i) = f_lok (s.1.1 7) (s.1.1 0 6) 0 := he
        have ez : 59 + 4 * nI i = nI (59 + i * 4) := by
          rw [show 4 * nI i = nI (4 * i) from pk_mul 4 i, Nat.mul_comm]
          exact nI_add 59 _
        obtain ⟨v0, w0⟩ := f_ix (n := 906) ez (by omega) (by omega)
        obtain ⟨v1, w1⟩ := f_bkix (i := i * 4) (j := 1) (y := 1) ez (by omega) rfl
        obtain ⟨v2, w2⟩ := f_bkix (i := i * 4) (j := 2) (y := 2) ez (by omega) rfl
        obtain ⟨v3, w3⟩ := f_bkix (i := i * 4) (j := 3) (y := 3) ez (by omega) rfl
        have q0 : M.1 101 (59 + 4 * nI i).toNatClampNeg = nI (s.1.1 7 (i * 4)) := by rw [w0]; exact hR.bb _ (by omega)
        have q1 : M.1 101 (59 + 4 * nI i + 1).toNatClampNeg = nI (s.1.1 7 (i * 4 + 1)) := by rw [w1]; exact hR.bb _ (by omega)
        have q2 : M.1 101 (59 + 4 * nI i + 2).toNatClampNeg = nI (s.1.1 7 (i * 4 + 2)) := by rw [w2]; exact hR.bb _ (by omega)
        have q3 : M.1 101 (59 + 4 * nI i + 3).toNatClampNeg = nI (s.1.1 7 (i * 4 + 3)) := by rw [w3]; exact hR.bb _ (by omega)
        have b0 := hbb i (by omega) 0 (by omega)
        have b1 := hbb i (by omega) 1 (by omega)
        have b2 := hbb i (by omega) 2 (by omega)
        have b3 := hb3 i
        rw [Nat.add_zero] at b0
        have tail : ∀ w : Nat, w < 2 → w = (if s.1.1 7 (i * 4 + 3) = 1 then 1 else 0) → X f_GM 61 [some (.ref 100), some (.int (nI i)), some (.int (59 + 4 * nI i))] [.int (nI w), .int (f_b (f_clz (s.1.1 7 (i * 4)) (s.1.1 7 (i * 4 + 1)) (s.1.1 7 (i * 4 + 2))))] M := by
          intro w hw hwe
          have ew : nI w = f_b (decide (s.1.1 7 (i * 4 + 3) = 1)) := by
            rw [hwe]
            by_cases h : s.1.1 7 (i * 4 + 3) = 1
            · rw [if_pos h, decide_eq_true h]; rfl
            · rw [if_neg h, decide_eq_false h]; rfl
          rw [ew]
          have feq : ∀ x y : Bool, f_b x = f_b y ↔ x = y := by decide
          refine f_run_ok (stop := fun q => Nat.beq q 2) hX 40 _ _ _ _ _ ?_
          refine And.intro (fun h => ?_) (fun h => ?_)
          · have h := (feq _ _).mp h
            rw [if_pos h] at he
            have q := ih (i + 1) (some (.int (59 + 4 * nI i))) (by omega) he
            rw [nI_succ i] at q
            exact q
          · have h : ¬ f_clz (s.1.1 7 (i * 4)) (s.1.1 7 (i * 4 + 1)) (s.1.1 7 (i * 4 + 2)) = decide (s.1.1 7 (i * 4 + 3) = 1) := fun z => h ((feq _ _).mpr z)
            rw [if_neg h] at he
            exact f_fin (hsp M hR) (by rw [← he]; rfl) rfl
        refine f_run_ok (stop := fun q => Nat.beq q 61) hX 60 _ _ _ _ _ ?_
        refine And.intro (v9 4 (by decide)) (And.intro (fun h => ?_) (fun _ => ?_))
        · have h : M.1 101 4 ≤ nI i := h
          rw [hR.bk] at h
          exact absurd ((nI_leI (by omega) (by omega)).mp h) (by omega)
        · refine And.intro v0 (And.intro v1 (And.intro v2 ⟨_, _, _, q0, q1, q2, by omega, by omega, by omega, And.intro v3 ?_⟩))
          refine And.intro (fun h => ?_) (fun h => ?_)
          · have h : M.1 101 (59 + 4 * nI i + 3).toNatClampNeg = 1 := h
            rw [q3] at h
            have h := (nI_eq (b := 1) (by omega) (by omega)).mp h
            exact tail 1 (by omega) (by rw [if_pos h])
          · have h : ¬ M.1 101 (59 + 4 * nI i + 3).toNatClampNeg = 1 := h
            rw [q3] at h
            have h : ¬ s.1.1 7 (i * 4 + 3) = 1 := fun z => h (by rw [z]; rfl)
            exact tail 0 (by omega) (by rw [if_neg h])
    refine f_run_ok (stop := fun q => Nat.beq q 2) hX 40 _ _ _ _ _ ?_
    exact loop (s.1.1 0 6) 0 none (by omega) rfl
set_option maxRecDepth 20000 in
theorem m_y_count : f_Meets 2 (kX12_count S_in) (f_y1 p_count) := by
  intro G As M R hsp X hX hW
  match As, hsp with
  | [.ref 100, .int w], ⟨s, hG, hS, hR, hsp⟩ =>
    subst hG
    unfold p_count at hsp
    have g4 := hR.2.2.2.1
    refine f_run_ok (stop := fun q => Nat.beq q 22) hX 40 _ _ _ _ _ ?_
    refine And.intro (fun h => ?_) (fun h => And.intro (fun h2 => ?_) (fun h2 => ?_))
    · have h : w = 6 := h
      subst h
      rw [if_neg (by decide), if_neg (by decide), if_neg (by decide), if_neg (by decide), if_neg (by decide), if_neg (by decide), if_pos rfl] at hsp
      exact f_fin (hsp M hR) (congrArg (fun z => some (Value.int z)) g4.symm) rfl
    · have h2 : f_b (decide (0 ≤ w ∧ w ≤ 5)) = 0 := h2
      have h2 := of_decide_eq_false (f_b0.mp h2)
      rw [if_neg (fun z => h2 (by rw [z]; decide)), if_neg (fun z => h2 (by rw [z]; decide)), if_neg (fun z => h2 (by rw [z]; decide)), if_neg (fun z => h2 (by rw [z]; decide)), if_neg (fun z => h2 (by rw [z]; decide)), if_neg (fun z => h2 (by rw [z]; decide)), if_neg h] at hsp
      exact hsp M hR
    · have h2 : ¬ f_b (decide (0 ≤ w ∧ w ≤ 5)) = 0 := h2
      have h2 := f_inY h2
      obtain ⟨W, hWb, rfl⟩ := nI_of (x := w) (Int32.not_lt.mpr h2.1)
      have w5 := (nI_leI (b := 5) hWb (by omega)).mp h2.2
      refine f_run_ok (stop := fun q => false) hX 40 _ _ _ _ _ ?_
      refine And.intro (v9 W (by omega)) ?_
      have fin : ∀ v : Int32, R f_GM (some (.int v)) M → v = M.1 101 W → R f_GM (some (.int (M.1 101 (nI W).toNatClampNeg))) M := fun v h e => by
        rw [nI_clamp (by omega), ← e]
        exact h
      have : W = 0 ∨ W = 1 ∨ W = 2 ∨ W = 3 ∨ W = 4 ∨ W = 5 := by omega
      rcases this with rfl | rfl | rfl | rfl | rfl | rfl
      · exact fin _ (hsp M hR) hR.nb.symm
      · exact fin _ (hsp M hR) hR.ny.symm
      · exact fin _ (hsp M hR) hR.bx.symm
      · exact fin _ (hsp M hR) hR.sn.symm
      · exact fin _ (hsp M hR) hR.bk.symm
      · exact fin _ (hsp M hR) hR.sg.symm
set_option maxRecDepth 20000 in
theorem m_y_trace : f_Meets 2 (kX12_trace S_in) (f_y1 p_trace) := by
  intro G As M R hsp X hX hW
  match As, hsp with
  | [.ref 100, .int i], ⟨s, hG, hS, hR, hsp⟩ =>
    subst hG
    unfold p_trace at hsp
    have hlen := hS.2.2
    obtain ⟨g4, g5⟩ := hR.2.2.2
    refine f_run_ok (stop := fun q => false) hX 40 _ _ _ _ _ ?_
    refine And.intro (fun h => ?_) (fun h => ?_)
    · have h : 20 ≤ M.1 100 35 := h
      rw [g4] at h
      exact absurd ((nI_leI (a := 20) (by omega) (by omega)).mp h) (by omega)
    · refine And.intro (fun h2 => ?_) (fun h2 => ?_)
      · have h2 : f_b (decide (0 ≤ i ∧ i ≤ M.1 100 35 - 1)) = 0 := h2
        have h2 := of_decide_eq_false (f_b0.mp h2)
        rw [g4] at h2
        rw [if_neg (fun z => h2 ⟨z.1, (f_lt_pred (by omega) z.1).mpr z.2⟩)] at hsp
        exact hsp M hR
      · have h2 : ¬ f_b (decide (0 ≤ i ∧ i ≤ M.1 100 35 - 1)) = 0 := h2
        have h2 := of_decide_eq_true (f_b_nt h2)
        rw [g4] at h2
        have h3 := (f_lt_pred (by omega) h2.1).mp h2.2
        have hi := f_nlt h2.1 h3 (by omega)
        rw [if_pos ⟨h2.1, h3⟩] at hsp
        obtain ⟨i1, i2⟩ := f_ix (n := 20) (f_nn h2.1).symm (by omega) (by omega)
        refine And.intro i1 (f_fin (hsp M hR) (congrArg (fun z => some (Value.int z)) ?_) rfl)
        show _ = M.1 116 i.toNatClampNeg
        rw [i2, g5 (f_n i) (s.2.2.getD (f_n i) 0) (by omega) (by rw [List.getD_eq_getElem?_getD, List.getElem?_eq_getElem hi]; rfl)]
set_option maxRecDepth 20000 in
theorem m_y_as : f_Meets 3 (kX12_as S_yB S_in S_und) (f_y2 p_as) := by
  intro G As M R hsp X hX hW
  match As, hsp with
  | [.ref 100, .int b, .int k], ⟨s, hG, hS, hR, hsp⟩ =>
    subst hG
    unfold p_as at hsp
    have bad : (f_ng b s = false ∨ k < 0 ∨ 7 ≤ k) → X f_GM 18 [some (.ref 100), some (.int b), some (.int k)] [] M := by
      intro h
      rw [if_pos h] at hsp
      exact f_run_ok (stop := fun _ => false) hX 10 _ _ _ _ _ (hsp M hR)
    refine f_run_ok (stop := fun q => Nat.beq q 18 || Nat.beq q 20) hX 40 _ _ _ _ _ ?_
    refine ⟨s.1.1 0 0, rfl, by have := hS.nb; omega, hR.nb, ?_⟩
    rw [f_ngM]
    cases hb : f_ng b s with
    | false => exact And.intro (fun _ => bad (Or.inl hb)) (fun z => absurd rfl z)
    | true =>
      obtain ⟨b1, b2, b3⟩ := f_ng_t hS hb
      refine And.intro (fun z => absurd z (by decide)) (fun _ => ?_)
      refine And.intro (fun h => ?_) (fun h => ?_)
      · have h : f_b (decide (0 ≤ k ∧ k ≤ 6)) = 0 := h
        exact bad (Or.inr ((f_inN h).elim Or.inl (fun z => Or.inr (by rw [Int32.lt_iff_toInt_lt] at z; rw [Int32.le_iff_toInt_le]; exact z))))
      have h : ¬ f_b (decide (0 ≤ k ∧ k ≤ 6)) = 0 := h
      have h := f_inY h
      obtain ⟨K, hKb, rfl⟩ := nI_of (x := k) (Int32.not_lt.mpr h.1)
      have k6 := (nI_leI (b := 6) hKb (by omega)).mp h.2
      rw [if_neg (by
        rw [hb]
        intro z
        rcases z with z | z | z
        · cases z
        · exact Int32.not_lt.mpr h.1 z
        · have := (nI_leI (a := 7) (by omega) hKb).mp z; omega), f_n_nI hKb] at hsp
      clear bad
      generalize f_n b = B at *
      subst b3
      obtain ⟨i1, i2⟩ := hR.kdi b2
      obtain ⟨j1, j2⟩ := hR.vli b2
      have hkd := hS.kd B
      refine f_run_ok (stop := fun q => false) hX 40 _ _ _ _ _ ?_
      refine And.intro i1 ⟨s.1.1 1 B, K, i2, rfl, hkd, by omega, ?_⟩
      refine And.intro (fun h2 => ?_) (fun h2 => ?_)
      · rw [if_neg (by rw [f_b0.mp h2]; decide)] at hsp
        exact hsp M hR
      · rw [if_pos (f_b_nt h2)] at hsp
        exact And.intro j1 (f_fin (hsp M hR) (congrArg (fun z => some (Value.int z)) j2.symm) rfl)
theorem f_CR.mv {c c' : Nat} {s : fCo} {M M' : fMem} (h : f_CR c s M) (h4 : s.1 0 5 ≤ 4) (e : ∀ k, k < 906 → M'.1 c' k = M.1 c k) : f_CR c' s M' := by
  obtain ⟨⟨a1, a2, a3, a4, a5, a6, a7, a8⟩, ⟨b1, b2, b3, b4, b5, b6, b7⟩, c0⟩ := h
  refine ⟨⟨(e _ (by omega)).trans a1, (e _ (by omega)).trans a2, (e _ (by omega)).trans a3, (e _ (by omega)).trans a4, (e _ (by omega)).trans a5, (e _ (by omega)).trans a6, (e _ (by omega)).trans a7, (e _ (by omega)).trans a8⟩, ⟨fun i hi => (e _ (by omega)).trans (b1 i hi), fun i hi => (e _ (by omega)).trans (b2 i hi), fun i hi => (e _ (by omega)).trans (b3 i hi), fun i hi => (e _ (by omega)).trans (b4 i hi), fun i hi => (e _ (by omega)).trans (b5 i hi), fun i hi => (e _ (by omega)).trans (b6 i hi), fun i hi => (e _ (by omega)).trans (b7 i hi)⟩, ?_⟩
  rcases c0 with ⟨a, b⟩ | ⟨a, l, m, h1, h2, h3, h4, h5, h6, h7, h8, g1, g2, g3⟩
  · exact Or.inl ⟨(e 6 (by omega)).trans a, b⟩
  · exact Or.inr ⟨a, l, m, ⟨h1.1, by rw [e 6 (by omega), e 1 (by omega)]; exact h1.2⟩, (e 6 (by omega)).trans h2, (e _ (by omega)).trans h3, h4, h5, (e _ (by omega)).trans h6, h7, h8, (e _ (by omega)).trans g1, g2, fun j x hj => (e _ (by have := (List.getElem?_eq_some_iff.mp hj).1; omega)).trans (g3 j x hj)⟩
set_option maxRecDepth 20000 in
theorem m_y_image : f_Meets 2 kX12_image (f_y0 p_image) := by
  intro G As M R hsp X hX hW
  match As, hsp with
  | [.ref 100], ⟨s, hG, hS, hR, hsp⟩ =>
    subst hG
    have loop : ∀ k j, j + k = 906 → X f_GM 2 [some (.ref 100), some (.int (nI j))] [] (f_cpy M 101 102 j) := by
      intro k
      induction k with
      | zero =>
        intro j hj
        have hj : j = 906 := by omega
        subst hj
        refine f_run_ok (stop := fun q => Nat.beq q 27) hX 20 _ _ _ _ _ ?_
        refine And.intro (fun _ => ?_) (fun z => absurd (nI_le (a := 906) (Nat.le_refl _) (by omega)) z)
        generalize hM1 : f_cpy M 101 102 906 = M1
        have e1 : ∀ c, c ≠ 102 → M1.1 c = M.1 c := fun c hc => by rw [← hM1]; exact f_cpy_ne M 101 102 906 c hc
        have e2 : ∀ i, i < 906 → M1.1 102 i = M.1 101 i := fun i hi => by rw [← hM1]; exact f_cpy_at M 101 102 906 i hi
        refine f_run_ok (stop := fun q => false) hX 20 _ _ _ _ _ ?_
        refine And.intro (Or.inr rfl) (And.intro (v9 0 (by decide)) ?_)
        obtain ⟨h1, h2, h3, h4, h5⟩ := hR
        refine f_fin (hsp (f_up M1.1 100 3 1, M1.2) ⟨?_, rfl, fun k hk => ?_, ?_, fun i y hi hy => ?_⟩) ?_ rfl
        · refine h1.cg ?_
          show f_up M1.1 100 3 1 101 = _
          rw [f_up_ne (by decide), e1 101 (by decide)]
        · have hk : some s.1 = some k := hk
          cases hk
          refine h1.mv hS.sn (fun i hi => ?_)
          show f_up M1.1 100 3 1 102 i = _
          rw [f_up_ne (by decide), e2 i hi]
        · show M1.1 100 35 = _; rw [e1 100 (by decide)]; exact h4
        · show M1.1 116 i = _; rw [e1 116 (by decide)]; exact h5 i y hi hy
        · show some (Value.int (nI (s.1.1 0 0))) = some (Value.int (M1.1 101 0))
          rw [e1 101 (by decide)]
          exact congrArg (fun z => some (Value.int z)) h1.1.1.symm
      | succ k ih =>
        intro j hj
        have q := ih (j + 1) (by omega)
        rw [← f_cpy_step, nI_succ j] at q
        obtain ⟨i1, i2⟩ := f_ix (z := nI j) (n := 906) rfl (by omega) (by omega)
        refine f_run_ok (stop := fun q => Nat.beq q 2) hX 20 _ _ _ _ _ ?_
        refine And.intro (fun z => absurd ((nI_leI (a := 906) (by omega) (by omega)).mp z) (by omega)) (fun _ => ?_)
        refine And.intro i1 (And.intro i1 ?_)
        show X f_GM 2 [some (.ref 100), some (.int (nI j + 1))] [] (f_up (f_cpy M 101 102 j).1 102 (nI j).toNatClampNeg ((f_cpy M 101 102 j).1 101 (nI j).toNatClampNeg), (f_cpy M 101 102 j).2)
        rw [i2]
        exact q
    refine f_run_ok (stop := fun q => Nat.beq q 2) hX 20 _ _ _ _ _ ?_
    have := loop 906 0 (by omega)
    have e0 : f_cpy M 101 102 0 = M := by
      unfold f_cpy
      refine Prod.ext ?_ rfl
      funext c i
      by_cases hc : c = 102
      · simp [hc]
      · simp [hc]
    rw [e0] at this
    exact this
set_option maxRecDepth 20000 in
theorem m_y_undo : f_Meets 2 kX12_undo (f_y0 p_undo) := by
  intro G As M R hsp X hX hW
  match As, hsp with
  | [.ref 100], ⟨s, hG, hS, hR, hsp⟩ =>
    subst hG
    unfold p_undo at hsp
    refine f_run_ok (stop := fun q => Nat.beq q 12) hX 40 _ _ _ _ _ ?_
    have hi := hR.2.1
    cases hs : s.2.1 with
    | none =>
      rw [hs] at hsp hi
      refine And.intro (fun _ => hsp M hR) (fun z => absurd hi z)
    | some kk =>
      rw [hs] at hsp hi
      refine And.intro (fun z => absurd (show (1 : Int32) = 0 from hi.symm.trans z) (by decide)) (fun _ => ?_)
      have hck := hR.2.2.1 kk hs
      have loop : ∀ k j, j + k = 906 → X f_GM 12 [some (.ref 100), some (.int (nI j))] [] (f_cpy M 102 101 j) := by
        intro k
        induction k with
        | zero =>
          intro j hj
          have hj : j = 906 := by omega
          subst hj
          refine f_run_ok (stop := fun q => Nat.beq q 37) hX 20 _ _ _ _ _ ?_
          refine And.intro (fun _ => ?_) (fun z => absurd (nI_le (a := 906) (Nat.le_refl _) (by omega)) z)
          generalize hM1 : f_cpy M 102 101 906 = M1
          have e1 : ∀ c, c ≠ 101 → M1.1 c = M.1 c := fun c hc => by rw [← hM1]; exact f_cpy_ne M 102 101 906 c hc
          have e2 : ∀ i, i < 906 → M1.1 101 i = M.1 102 i := fun i hi => by rw [← hM1]; exact f_cpy_at M 102 101 906 i hi
          refine f_run_ok (stop := fun q => false) hX 20 _ _ _ _ _ ?_
          refine And.intro (v9 0 (by decide)) ?_
          have h4k : kk.1 0 5 ≤ 4 := (hS.2.1 kk hs).1.2.2.2.2.2.1
          have hc1 : f_CR 101 kk M1 := hck.mv h4k e2
          obtain ⟨h1, h2, h3, h4, h5⟩ := hR
          refine f_fin (hsp M1 ⟨hc1, ?_, fun k' hk' => ?_, ?_, fun i y hi hy => ?_⟩) ?_ rfl
          · show M1.1 100 3 = _; rw [e1 100 (by decide)]; exact hi
          · have hk' : some kk = some k' := hk'
            cases hk'
            exact hck.cg (e1 102 (by decide))
          · rw [e1 100 (by decide)]; exact h4
          · rw [e1 116 (by decide)]; exact h5 i y hi hy
          · show some (Value.int (nI (kk.1 0 0))) = some (Value.int (M1.1 101 0))
            exact congrArg (fun z => some (Value.int z)) hc1.1.1.symm
        | succ k ih =>
          intro j hj
          have q := ih (j + 1) (by omega)
          rw [← f_cpy_step, nI_succ j] at q
          obtain ⟨i1, i2⟩ := f_ix (z := nI j) (n := 906) rfl (by omega) (by omega)
          refine f_run_ok (stop := fun q => Nat.beq q 12) hX 20 _ _ _ _ _ ?_
          refine And.intro (fun z => absurd ((nI_leI (a := 906) (by omega) (by omega)).mp z) (by omega)) (fun _ => ?_)
          refine And.intro i1 (And.intro i1 ?_)
          show X f_GM 12 [some (.ref 100), some (.int (nI j + 1))] [] (f_up (f_cpy M 102 101 j).1 101 (nI j).toNatClampNeg ((f_cpy M 102 101 j).1 102 (nI j).toNatClampNeg), (f_cpy M 102 101 j).2)
          rw [i2]
          exact q
      have := loop 906 0 (by omega)
      have e0 : f_cpy M 102 101 0 = M := by
        unfold f_cpy
        refine Prod.ext ?_ rfl
        funext c i
        by_cases hc : c = 101
        · simp [hc]
        · simp [hc]
      rw [e0] at this
      exact this
set_option maxRecDepth 20000 in
theorem m_y_stair : f_Meets 6 (kX12_stair S_in) (f_y1 p_stair) := by
  intro G As M R hsp X hX hW
  match As, hsp with
  | [.ref 100, .int m], ⟨s, hG, hS, hR, hsp⟩ =>
    subst hG
    unfold p_stair at hsp
    refine f_run_ok (stop := fun q => Nat.beq q 14) hX 40 _ _ _ _ _ ?_
    refine And.intro (fun h => ?_) (fun h => ?_)
    · rw [if_pos (f_inN h)] at hsp
      exact hsp M hR
    · have h := f_inY h
      rw [if_neg (fun z => z.elim (Int32.not_lt.mpr h.1) (Int32.not_lt.mpr h.2))] at hsp
      obtain ⟨m, hmb, rfl⟩ := nI_of (x := m) (fun z => absurd (Int32.lt_of_lt_of_le (show (0 : Int32) < 1 by decide) h.1) (Int32.not_lt.mpr (Int32.le_of_lt z)))
      have hm := (nI_leI (b := 999) hmb (by omega)).mp h.2
      rw [f_n_nI hmb] at hsp
      have loop : ∀ (n a b k : Nat) (u : Option Value), 1 ≤ a → b ≤ 2 * a → a ≤ b → b ≤ 1998 → k + n = 999 → k + 1 ≤ b → f_str m n b (a + b) k = f_str m 999 1 2 0 → X f_GM 21 [some (.ref 100), some (.int (nI m)), some (.int (nI k)), some (.int (nI a)), some (.int (nI b)), u] [] M := by
        intro n
        induction n with
        | zero =>
          intro a b k u h1 h2 h3 h4 hk hkb he
          refine f_run_ok (stop := fun q => Nat.beq q 21) hX 40 _ _ _ _ _ ?_
          refine And.intro (fun z => ?_) (fun z => absurd (nI_lt (by omega) (by omega)) z)
          have he : k = f_str m 999 1 2 0 := he
          exact f_fin (hsp M hR) (by rw [← he]; rfl) rfl
        | succ n ih =>
          intro a b k u h1 h2 h3 h4 hk hkb he
          have he : (if b ≤ m then f_str m n (a + b) (b + (a + b)) (k + 1) else k) = f_str m 999 1 2 0 := he
          refine f_run_ok (stop := fun q => Nat.beq q 21) hX 40 _ _ _ _ _ ?_
          refine And.intro (fun z => ?_) (fun z => ?_)
          · have z := (nI_ltI (by omega) (by omega)).mp z
            rw [if_neg (by omega)] at he
            exact f_fin (hsp M hR) (by rw [← he]; rfl) rfl
          · have z : ¬ m < b := fun q => z (nI_lt q (by omega))
            rw [if_pos (by omega)] at he
            have q := ih b (a + b) (k + 1) (some (.int (nI (a + b)))) (by omega) (by omega) (by omega) (by omega) (by omega) (by omega) he
            rw [nI_succ k, ← nI_add a b] at q
            exact q
      refine f_run_ok (stop := fun q => Nat.beq q 21) hX 40 _ _ _ _ _ ?_
      exact loop 999 1 1 0 none (by omega) (by omega) (by omega) (by omega) (by omega) (by omega) rfl
