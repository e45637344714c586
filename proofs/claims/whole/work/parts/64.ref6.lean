/-! ===== the reference: saws ===== -/
def f_sr0 (p : Nat) (tr : Nat → Nat) (st : fSw) : fSw := if st.1 ≤ f_tri tr p then (f_tri tr p + 1, fun i => nI (tr i)) else st
def f_sr (p : Nat) : Nat → Nat → Nat → (Nat → Nat) → fSw → fSw
  | 0, left, _, tr, st => if left = 0 then f_sr0 p tr st else st
  | d + 1, left, lg, tr, st => f_lp (fun n a => f_sr p d (left - n) n (fun i => if i + (d + 1) = p then n else tr i) a) (min lg left) 1 st
theorem f_lp_id {α : Type} {F : Nat → α → α} : ∀ (n j : Nat) (a : α), (∀ x, j ≤ x → x < j + n → ∀ a, F x a = a) → f_lp F n j a = a := by
  intro n
  induction n with
  | zero => intro j a _; rfl
  | succ n ih =>
    intro j a h
    show f_lp F n (j + 1) (F j a) = a
    rw [h j (Nat.le_refl _) (by omega)]
    exact ih (j + 1) a (fun x h1 h2 => h x (by omega) (by omega))
theorem f_lp_cg {α : Type} {F G : Nat → α → α} : ∀ (n j : Nat) (a : α), (∀ x, j ≤ x → x < j + n → ∀ a, F x a = G x a) → f_lp F n j a = f_lp G n j a := by
  intro n
  induction n with
  | zero => intro j a _; rfl
  | succ n ih =>
    intro j a h
    show f_lp F n (j + 1) (F j a) = f_lp G n (j + 1) (G j a)
    rw [h j (Nat.le_refl _) (by omega)]
    exact ih (j + 1) _ (fun x h1 h2 => h x (by omega) (by omega))
theorem f_sr_no (p : Nat) : ∀ (d left lg : Nat) (tr : Nat → Nat) (a : fSw), d * lg < left → f_sr p d left lg tr a = a := by
  intro d
  induction d with
  | zero =>
    intro left lg tr a h
    unfold f_sr
    rw [if_neg (by omega)]
  | succ d ih =>
    intro left lg tr a h
    refine f_lp_id _ _ _ (fun x h1 h2 a => ih _ _ _ _ ?_)
    rw [Nat.succ_mul] at h
    have : d * x ≤ d * lg := Nat.mul_le_mul_left _ (by omega)
    omega
theorem f_sr_eq (p : Nat) : ∀ (d left lg : Nat) (tr : Nat → Nat) (a : fSw), f_sr p d left lg tr a = f_sw p d left lg tr a := by
  intro d
  induction d with
  | zero =>
    intro left lg tr a
    unfold f_sr f_sw f_sr0
    by_cases h : left = 0
    · rw [if_pos h]
      by_cases h2 : a.1 ≤ f_tri tr p
      · rw [if_pos h2, if_pos ⟨h, h2⟩]
      · rw [if_neg h2, if_neg (fun z => h2 z.2)]
    · rw [if_neg h, if_neg (fun z => h z.1)]
  | succ d ih =>
    intro left lg tr a
    refine f_lp_cg _ _ _ (fun x h1 h2 a => ?_)
    show f_sr p d (left - x) x (fun i => if i + (d + 1) = p then x else tr i) a = if left ≤ x * (d + 1) then f_sw p d (left - x) x (fun i => if i + (d + 1) = p then x else tr i) a else a
    by_cases h : left ≤ x * (d + 1)
    · rw [if_pos h]; exact ih _ _ _ _
    · rw [if_neg h]
      refine f_sr_no p _ _ _ _ _ ?_
      rw [Nat.mul_succ, Nat.mul_comm] at h
      omega
def f_SWL : List Nat := [114, 115, 1031]
def S_ts : fSp := fun G As M R => match As with
  | [.ref 100, .int zp] => ∃ (p : Nat) (tr : Nat → Nat) (st : fSw), G = f_GM ∧ zp = nI p ∧ p ≤ 6 ∧ (∀ i, i < p → M.1 114 i = nI (tr i) ∧ tr i < 1000) ∧ M.1 100 31 = f_pm st.1 ∧ st.1 < 1000 ∧ (∀ i, i < p → M.1 115 i = st.2 i) ∧ (∀ M', f_em f_SWL M M' → (∀ i, M'.1 114 i = M.1 114 i) → M'.1 100 31 = f_pm (f_sr0 p tr st).1 → (f_sr0 p tr st).1 < 1000 → (∀ i, i < p → M'.1 115 i = (f_sr0 p tr st).2 i) → R G none M')
  | _ => False
set_option maxRecDepth 20000 in
theorem m_ts : f_Meets 4 (kX12_triesSaw S_st3) S_ts := by
  intro G As M R hsp X hX hW
  match As, hsp with
  | [.ref 100, .int zp], ⟨p, tr, st, hG, hzp, hp, htr, hmo, hst, hbe, hsp⟩ =>
    subst hG; subst hzp
    have htri : f_tri tr p ≤ 216 := by
      have h1 := f_tri_le tr p
      have h2 : p * (p * p) ≤ 6 * (6 * 6) := Nat.mul_le_mul hp (Nat.mul_le_mul hp hp)
      omega
    refine f_run_ok (stop := fun q => Nat.beq q 21) hX 30 _ _ _ _ _ ?_
    refine ⟨p, tr, rfl, rfl, hp, htr, ?_⟩
    refine And.intro (fun h3 => ?_) (fun h3 => ?_)
    · have h3 : nI (f_tri tr p) ≤ M.1 100 31 := h3
      rw [hmo, f_pm_le (by omega) (by omega)] at h3
      have e : f_sr0 p tr st = st := if_neg (by omega)
      rw [e] at hsp
      exact hsp M f_em.rf (fun _ => rfl) hmo hst hbe
    · have h3 : ¬ nI (f_tri tr p) ≤ M.1 100 31 := h3
      rw [hmo, f_pm_le (by omega) (by omega)] at h3
      have e : f_sr0 p tr st = (f_tri tr p + 1, fun i => nI (tr i)) := if_pos (by omega)
      rw [e] at hsp
      obtain ⟨M1, hM1⟩ : ∃ M1 : fMem, (f_up M.1 100 31 (nI (f_tri tr p)), M.2) = M1 := ⟨_, rfl⟩
      have e1 : f_em f_SWL M M1 := by rw [← hM1]; exact f_em.rf.uf (by decide)
      have e31 : M1.1 100 31 = nI (f_tri tr p) := by rw [← hM1]; rfl
      have e114 : ∀ i, M1.1 114 i = M.1 114 i := fun i => by rw [← hM1]; rfl
      have loop : ∀ t j, j + t = p → X f_GM 21 [some (.ref 100), some (.int (nI p)), some (.int (nI (f_tri tr p))), some (.int (nI j))] [] (f_cpy M1 114 115 j) := by
        intro t
        induction t with
        | zero =>
          intro j hj
          have hj : j = p := by omega
          subst hj
          refine f_run_ok (stop := fun q => false) hX 20 _ _ _ _ _ ?_
          refine And.intro (fun _ => ?_) (fun z => absurd (nI_le (Nat.le_refl _) (by omega)) z)
          refine hsp (f_cpy M1 114 115 j) ⟨fun c h1 h2 => ?_, fun c h1 h2 => e1.2.1 c h1 h2, fun k h1 => ?_, fun k h1 => e1.2.2.2 k h1⟩ (fun i => ?_) ?_ (by show f_tri tr j + 1 < 1000; omega) (fun i hi => ?_)
          · rw [f_cpy_ne M1 114 115 j c (fun z => h2 (by rw [z]; decide))]
            exact e1.1 c h1 h2
          · rw [f_cpy_ne M1 114 115 j 100 (by decide)]
            exact e1.2.2.1 k h1
          · rw [f_cpy_ne M1 114 115 j 114 (by decide)]; exact e114 i
          · rw [f_cpy_ne M1 114 115 j 100 (by decide)]; exact e31
          · rw [f_cpy_at M1 114 115 j i hi, e114]; exact (htr i hi).1
        | succ t ih =>
          intro j hj
          have q := ih (j + 1) (by omega)
          rw [← f_cpy_step, nI_succ j] at q
          obtain ⟨i1, i2⟩ := f_ix (z := nI j) (n := 6) rfl (by omega) (by omega)
          refine f_run_ok (stop := fun q => Nat.beq q 21) hX 20 _ _ _ _ _ ?_
          refine And.intro (fun z => absurd ((nI_leI (by omega) (by omega)).mp z) (by omega)) (fun _ => ?_)
          refine And.intro i1 (And.intro i1 ?_)
          show X f_GM 21 [some (.ref 100), some (.int (nI p)), some (.int (nI (f_tri tr p))), some (.int (nI j + 1))] [] (f_up (f_cpy M1 114 115 j).1 115 (nI j).toNatClampNeg ((f_cpy M1 114 115 j).1 114 (nI j).toNatClampNeg), (f_cpy M1 114 115 j).2)
          rw [i2]
          exact q
      have := loop p 0 (by omega)
      have e0 : f_cpy M1 114 115 0 = M1 := by
        unfold f_cpy
        refine Prod.ext ?_ rfl
        funext c i
        by_cases hc : c = 115
        · simp [hc]
        · simp [hc]
      rw [e0, ← hM1] at this
      exact this
def S_sf (d : Nat) : fSp := fun G As M R => match As with
  | [.ref 100, .int zp, .int zk, .int zl, .int zg] => ∃ (left p k lg : Nat) (tr : Nat → Nat) (st : fSw), G = f_GM ∧ zl = nI left ∧ left ≤ 17 ∧ zp = nI p ∧ p ≤ 6 ∧ zk = nI k ∧ k + d = p ∧ zg = nI lg ∧ lg ≤ 17 ∧ (∀ i, i < k → M.1 114 i = nI (tr i) ∧ tr i < 1000) ∧ M.1 100 31 = f_pm st.1 ∧ st.1 < 1000 ∧ (∀ i, i < p → M.1 115 i = st.2 i) ∧ (∀ M', f_em f_SWL M M' → (∀ i, i < k → M'.1 114 i = M.1 114 i) → M'.1 100 31 = f_pm (f_sr p d left lg tr st).1 → (f_sr p d left lg tr st).1 < 1000 → (∀ i, i < p → M'.1 115 i = (f_sr p d left lg tr st).2 i) → R G none M')
  | _ => False
set_option maxRecDepth 20000 in
theorem m_sf (d : Nat) (sp : fSp) (hs : ∀ e, d = e + 1 → sp = S_sf e) : f_Meets 6 (kX12_sawsFrom S_ts sp) (S_sf d) := by
  intro G As M R hsp X hX hW
  match As, hsp with
  | [.ref 100, .int zp, .int zk, .int zl, .int zg], ⟨left, p, k, lg, tr, st, hG, hzl, hl, hzp, hp, hzk, hkd, hzg, hlg, htr, hmo, hst, hbe, hsp⟩ =>
    subst hG; subst hzl; subst hzp; subst hzk; subst hzg
    cases d with
    | zero =>
      have hkp : k = p := by omega
      subst hkp
      refine f_run_ok (stop := fun q => false) hX 30 _ _ _ _ _ ?_
      refine And.intro (fun _ => ?_) (fun h => absurd rfl h)
      refine And.intro (fun h2 => ?_) (fun h2 => ?_)
      · have h2 : left = 0 := (nI_eq (b := 0) (by omega) (by omega)).mp h2
        have e : f_sr k 0 left lg tr st = f_sr0 k tr st := if_pos h2
        rw [e] at hsp
        exact ⟨k, tr, st, rfl, rfl, hp, htr, hmo, hst, hbe, fun M' he h114 h31 hlt h115 => hsp M' he (fun i _ => h114 i) h31 hlt h115⟩
      · have h2 : ¬ left = 0 := fun z => h2 (by rw [z]; rfl)
        have e : f_sr k 0 left lg tr st = st := if_neg h2
        rw [e] at hsp
        exact hsp M f_em.rf (fun _ _ => rfl) hmo hst hbe
    | succ d =>
      have hsd := hs d rfl
      subst hsd
      have hres : ∀ a, f_sr p (d + 1) left lg tr a = f_lp (fun n a => f_sr p d (left - n) n (fun i => if i + (d + 1) = p then n else tr i) a) (min lg left) 1 a := fun _ => rfl
      rw [hres] at hsp
      generalize hF : (fun (n : Nat) (a : fSw) => f_sr p d (left - n) n (fun i => if i + (d + 1) = p then n else tr i) a) = F at hsp
      have loop : ∀ (m j : Nat) (a : fSw) (M' : fMem), j + m = min lg left + 1 → 1 ≤ j → f_lp F m j a = f_lp F (min lg left) 1 st → f_em f_SWL M M' → (∀ i, i < k → M'.1 114 i = M.1 114 i) → M'.1 100 31 = f_pm a.1 → a.1 < 1000 → (∀ i, i < p → M'.1 115 i = a.2 i) → X f_GM 18 [some (.ref 100), some (.int (nI p)), some (.int (nI k)), some (.int (nI left)), some (.int (nI lg)), some (.int (nI j))] [] M' := by
        intro m
        induction m with
        | zero =>
          intro j a M' hj hj1 hv he htr' hmo' ha hbe'
          have hv : a = f_lp F (min lg left) 1 st := hv
          have done : R f_GM none M' := hsp M' he htr' (by rw [← hv]; exact hmo') (by rw [← hv]; exact ha) (by rw [← hv]; exact hbe')
          refine f_run_ok (stop := fun q => false) hX 10 _ _ _ _ _ ?_
          refine And.intro (fun h => done) (fun h => ?_)
          have h : ¬ lg < j := fun z => h (nI_lt z (by omega))
          refine And.intro (fun h2 => done) (fun h2 => ?_)
          have h2 : ¬ left < j := fun z => h2 (nI_lt z (by omega))
          omega
        | succ m ih =>
          intro j a M' hj hj1 hv he htr' hmo' ha hbe'
          have hv : f_lp F m (j + 1) (F j a) = f_lp F (min lg left) 1 st := hv
          have hFj : F j a = f_sr p d (left - j) j (fun i => if i + (d + 1) = p then j else tr i) a := by rw [← hF]
          obtain ⟨i1, i2⟩ := f_ix (z := nI k) (n := 6) rfl (by omega) (by omega)
          refine f_run_ok (stop := fun q => Nat.beq q 39) hX 60 _ _ _ _ _ ?_
          refine And.intro (fun h => absurd ((nI_ltI (by omega) (by omega)).mp h) (by omega)) (fun h => ?_)
          refine And.intro (fun h2 => absurd ((nI_ltI (by omega) (by omega)).mp h2) (by omega)) (fun h2 => ?_)
          refine And.intro i1 ?_
          show X f_GM 39 [some (.ref 100), some (.int (nI p)), some (.int (nI k)), some (.int (nI left)), some (.int (nI lg)), some (.int (nI j))] [] (f_up M'.1 114 (nI k).toNatClampNeg (nI j), M'.2)
          rw [i2]
          refine f_run_ok (stop := fun q => Nat.beq q 53) hX 60 _ _ _ _ _ ?_
          refine ⟨left - j, p, k + 1, j, (fun i => if i + (d + 1) = p then j else tr i), a, rfl, pk_sub (by omega), by omega, rfl, hp, (nI_succ k).symm, by omega, rfl, by omega, fun i hi => ?_, hmo', ha, hbe', fun M2 he2 htr2 hmo2 ha2 hbe2 => ?_⟩
          · show (if 114 = 114 then (if i = k then nI j else M'.1 114 i) else M'.1 114 i) = nI (if i + (d + 1) = p then j else tr i) ∧ (if i + (d + 1) = p then j else tr i) < 1000
            rw [if_pos rfl]
            by_cases e : i = k
            · rw [if_pos e, if_pos (show i + (d + 1) = p by omega)]
              exact ⟨rfl, by omega⟩
            · rw [if_neg e, if_neg (show ¬ i + (d + 1) = p by omega), htr' i (by omega)]
              exact htr i (by omega)
          · rw [← hFj] at hmo2 ha2 hbe2
            show X f_GM 53 [some (.ref 100), some (.int (nI p)), some (.int (nI k)), some (.int (nI left)), some (.int (nI lg)), some (.int (nI j))] [] M2
            refine f_run_ok (stop := fun q => Nat.beq q 18) hX 10 _ _ _ _ _ ?_
            have q := ih (j + 1) (F j a) M2 (by omega) (by omega) hv ((he.up (by decide)).tr he2) (fun i hi => by
              rw [htr2 i (by omega)]
              show (if 114 = 114 then (if i = k then nI j else M'.1 114 i) else M'.1 114 i) = _
              rw [if_pos rfl, if_neg (by omega)]
              exact htr' i hi) hmo2 ha2 hbe2
            rw [nI_succ] at q
            exact q
      refine f_run_ok (stop := fun q => Nat.beq q 18) hX 30 _ _ _ _ _ ?_
      refine And.intro (fun h => absurd ((nI_eq (by omega) (by omega)).mp h) (by omega)) (fun h => ?_)
      exact loop (min lg left) 1 st M (by omega) (by omega) rfl f_em.rf (fun _ _ => rfl) hmo hst hbe
def S_sf6 : fSp := fun G As M R => ∃ d, d ≤ 6 ∧ S_sf d G As M R
set_option maxRecDepth 20000 in
theorem m_y_sawn : f_Meets 3 (kX12_sawn S_in S_lo S_sf6) (f_y2 p_sawn) := by
  intro G As M R hsp X hX hW
  match As, hsp with
  | [.ref 100, .int p, .int k], ⟨s, hG, hS, hR, hsp⟩ =>
    subst hG
    unfold p_sawn at hsp
    have hL17 := hS.L17
    refine f_run_ok (stop := fun q => Nat.beq q 11) hX 40 _ _ _ _ _ ?_
    refine And.intro (fun h => ?_) (fun h => ?_)
    · have h : f_b (decide (-1 ≤ k ∧ k ≤ 5)) = 0 := h
      rw [if_pos ((f_inN h).elim Or.inl (fun z => Or.inr (by rw [Int32.lt_iff_toInt_lt] at z; rw [Int32.le_iff_toInt_le]; exact z)))] at hsp
      exact hsp M hR
    have h : ¬ f_b (decide (-1 ≤ k ∧ k ≤ 5)) = 0 := h
    have h := f_inY h
    rw [if_neg (fun z => z.elim (Int32.not_lt.mpr h.1) (fun z => by
      have := Int32.le_trans z h.2
      exact absurd this (by decide)))] at hsp
    refine f_run_ok (stop := fun q => Nat.beq q 24) hX 40 _ _ _ _ _ ?_
    refine And.intro (fun h2 => ?_) (fun h2 => ?_)
    · rw [if_pos (f_inN h2)] at hsp
      exact hsp M hR
    have h2 := f_inY h2
    rw [if_neg (fun z => z.elim (Int32.not_lt.mpr h2.1) (Int32.not_lt.mpr h2.2))] at hsp
    have bad3 : (nI s.1.2.2.1 < p ∨ p ≤ k) → X f_GM 37 [some (.ref 100), some (.int p), some (.int k)] [] M := by
      intro h
      rw [if_pos h] at hsp
      exact f_run_ok (stop := fun _ => false) hX 10 _ _ _ _ _ (hsp M hR)
    refine f_run_ok (stop := fun q => Nat.beq q 37 || Nat.beq q 40) hX 40 _ _ _ _ _ ?_
    refine ⟨s.1.2.2, rfl, hR.hr, ?_⟩
    refine And.intro (fun h5 => bad3 (Or.inl h5)) (fun h5 => ?_)
    refine And.intro (fun h6 => ?_) (fun h6 => bad3 (Or.inr (Int32.not_lt.mp h6)))
    rw [if_neg (fun z => z.elim h5 (fun z => Int32.not_lt.mpr z h6))] at hsp
    clear bad3
    obtain ⟨P, hPb, rfl⟩ := nI_of (x := p) (fun z => absurd (Int32.lt_of_lt_of_le (show (0 : Int32) < 3 by decide) h2.1) (Int32.not_lt.mpr (Int32.le_of_lt z)))
    have p3 := (nI_leI (a := 3) (by omega) hPb).mp h2.1
    have p6 := (nI_leI (b := 6) hPb (by omega)).mp h2.2
    have hPL : P ≤ s.1.2.2.1 := (nI_leI hPb (by omega)).mp (Int32.not_lt.mp h5)
    rw [f_n_nI hPb] at hsp
    obtain ⟨e1, e2⟩ := f_swn_eq hPL (by omega) (fun _ => 0) (M.1 115)
    have he0 : f_em f_SWL M (f_up M.1 100 31 (-1), M.2) := f_em.rf.uf (by decide)
    have hh : f_HR 101 s.1.2.2 (f_up M.1 100 31 (-1), M.2) := hR.hr.cg (show f_up M.1 100 31 (-1) 101 = M.1 101 from f_up_ne (by decide))
    refine f_run_ok (stop := fun q => Nat.beq q 59) hX 40 _ _ _ _ _ ?_
    refine ⟨s.1.2.2, rfl, hh, s.1.2.2, rfl, hh, P, p6, s.1.2.2.1, P, 0, s.1.2.2.1, fun _ => 0, (0, M.1 115), rfl, rfl, hL17, rfl, p6, rfl, by omega, rfl, hL17, fun i hi => absurd hi (Nat.not_lt_zero i), rfl, by show 0 < 1000; omega, fun i hi => rfl, fun M1 he1 _ hmo _ hbe => ?_⟩
    have r1 := hR.em (he0.tr he1) (by decide)
    rw [f_sr_eq] at hmo hbe
    show X f_GM 59 [some (.ref 100), some (.int (nI P)), some (.int k)] [] M1
    refine f_run_ok (stop := fun q => false) hX 40 _ _ _ _ _ ?_
    refine And.intro (fun h7 => ?_) (fun h7 => ?_)
    · rw [if_pos h7] at hsp
      refine f_fin (hsp M1 r1) (congrArg (fun z => some (Value.int z)) ?_) rfl
      rw [hmo, e1]
    · rw [if_neg h7] at hsp
      have k0 : 0 ≤ k := by
        have a1 := h.1
        have a2 : ¬ k = -1 := h7
        rw [Int32.le_iff_toInt_le, Int32.toInt_zero]
        rw [Int32.le_iff_toInt_le] at a1
        have a3 : ¬ k.toInt = -1 := fun z => a2 (Int32.toInt_inj.mp z)
        have a4 : (-1 : Int32).toInt = -1 := by decide
        omega
      obtain ⟨K, hKb, rfl⟩ := nI_of (x := k) (Int32.not_lt.mpr k0)
      have kP := (nI_ltI hKb hPb).mp h6
      rw [f_n_nI hKb] at hsp
      obtain ⟨i1, i2⟩ := f_ix (z := nI K) (n := 6) rfl (by omega) (by omega)
      refine And.intro i1 (f_fin (hsp M1 r1) (congrArg (fun z => some (Value.int z)) ?_) rfl)
      show _ = M1.1 115 (nI K).toNatClampNeg
      rw [i2, hbe K kP, e2 K kP]
