/-! ===== Triangles: sawOff, sawUp ===== -/
def f_lp {α : Type} (F : Nat → α → α) : Nat → Nat → α → α
  | 0, _, a => a
  | n + 1, j, a => f_lp F n (j + 1) (F j a)
abbrev fSw : Type := Nat × (Nat → Int32)
def f_sw (p : Nat) : Nat → Nat → Nat → (Nat → Nat) → fSw → fSw
  | 0, left, _, tr, st => if left = 0 ∧ st.1 ≤ f_tri tr p then (f_tri tr p + 1, fun i => nI (tr i)) else st
  | d + 1, left, lg, tr, st => f_lp (fun n a => if left ≤ n * (d + 1) then f_sw p d (left - n) n (fun i => if i + (d + 1) = p then n else tr i) a else a) (min lg left) 1 st
def f_pm : Nat → Int32
  | 0 => -1
  | s + 1 => nI s
theorem f_pm_le {t s : Nat} (ht : t < 2 ^ 31) (hs : s < 2 ^ 31) : nI t ≤ f_pm s ↔ t + 1 ≤ s := by
  cases s with
  | zero =>
    constructor
    · intro h
      have h : nI t ≤ -1 := h
      rw [Int32.le_iff_toInt_le, nI_toInt ht] at h
      have : (-1 : Int32).toInt = -1 := by decide
      omega
    · intro h; omega
  | succ s =>
    show nI t ≤ nI s ↔ _
    rw [nI_leI ht (by omega)]
    omega
theorem f_pm_m1 {s : Nat} (hs : s < 2 ^ 31) : (-1 : Int32) ≤ f_pm s := by
  cases s with
  | zero => decide
  | succ s =>
    show (-1 : Int32) ≤ nI s
    rw [Int32.le_iff_toInt_le, nI_toInt (by omega)]
    have : (-1 : Int32).toInt = -1 := by decide
    omega
def S_swo (d : Nat) : fSp := fun G As M R => match As with
  | [.ref 48, .int zl, .int zp, .int zk, .int zg] => ∃ (left p k lg : Nat) (tr : Nat → Nat) (st : fSw), G = f_GX ∧ zl = nI left ∧ left ≤ 17 ∧ zp = nI p ∧ p ≤ 6 ∧ zk = nI k ∧ k + d = p ∧ zg = nI lg ∧ lg ≤ 17 ∧ (∀ i, i < k → M.1 50 i = nI (tr i) ∧ tr i < 1000) ∧ M.1 48 3 = f_pm st.1 ∧ st.1 < 1000 ∧ (∀ i, i < p → M.1 51 i = st.2 i) ∧ (∀ M', f_ex [48, 50, 51] [] M M' → (∀ i, i < k → M'.1 50 i = M.1 50 i) → M'.1 48 3 = f_pm (f_sw p d left lg tr st).1 → (f_sw p d left lg tr st).1 < 1000 → (∀ i, i < p → M'.1 51 i = (f_sw p d left lg tr st).2 i) → R G none M')
  | _ => False
set_option maxRecDepth 20000 in
theorem m_swo (d : Nat) (sp : fSp) (hs : ∀ e, d = e + 1 → sp = S_swo e) : f_Meets 6 (kX9_sawOff S_ct S_copyRow S_put sp) (S_swo d) := by
  intro G As M R hsp X hX hW
  match As, hsp with
  | [.ref 48, .int zl, .int zp, .int zk, .int zg], ⟨left, p, k, lg, tr, st, hG, hzl, hl, hzp, hp, hzk, hkd, hzg, hlg, htr, hmo, hst, hbe, hsp⟩ =>
    subst hG; subst hzl; subst hzp; subst hzk; subst hzg
    cases d with
    | zero =>
      have hkp : k = p := by omega
      subst hkp
      have htri : f_tri tr k ≤ 216 := by
        have h1 := f_tri_le tr k
        have h2 : k * (k * k) ≤ 6 * (6 * 6) := Nat.mul_le_mul hp (Nat.mul_le_mul hp hp)
        omega
      refine f_run_ok (stop := fun q => false) hX 30 _ _ _ _ _ ?_
      refine And.intro (fun h => ?_) (fun h => absurd (nI_le (Nat.le_refl k) (by omega)) h)
      refine And.intro (fun h2 => ?_) (fun h2 => ?_)
      · have h2 : left = 0 := (nI_eq (b := 0) (by omega) (by omega)).mp h2
        refine ⟨k, tr, rfl, by omega, ⟨(6, M.1 50), rfl, hp, fun i hi => htr i hi⟩, ?_⟩
        refine And.intro (fun h3 => ?_) (fun h3 => ?_)
        · have h3 : nI (f_tri tr k) ≤ M.1 48 3 := h3
          rw [hmo, f_pm_le (by omega) (by omega)] at h3
          have e : f_sw k 0 left lg tr st = st := if_neg (fun z => by omega)
          rw [e] at hsp
          exact hsp M f_ex.rf (fun _ _ => rfl) hmo hst hbe
        · have h3 : ¬ nI (f_tri tr k) ≤ M.1 48 3 := h3
          rw [hmo, f_pm_le (by omega) (by omega)] at h3
          have e : f_sw k 0 left lg tr st = (f_tri tr k + 1, fun i => nI (tr i)) := if_pos ⟨h2, by omega⟩
          rw [e] at hsp
          refine hsp (f_cpy (f_up M.1 48 3 (nI (f_tri tr k)), M.2) 50 51 6) ⟨fun c hc => ?_, fun c hc => rfl⟩ (fun i hi => rfl) rfl (by show f_tri tr k + 1 < 1000; omega) (fun i hi => ?_)
          · have h51 : ¬ c = 51 := fun e => hc (by rw [e]; decide)
            have h48 : ¬ c = 48 := fun e => hc (by rw [e]; decide)
            funext i
            show (if c = 51 then _ else f_up M.1 48 3 (nI (f_tri tr k)) c i) = M.1 c i
            rw [if_neg h51]
            show (if c = 48 then _ else M.1 c i) = _
            rw [if_neg h48]
          · show (if 51 = 51 then (if i < 6 then M.1 50 i else M.1 51 i) else M.1 51 i) = nI (tr i)
            rw [if_pos rfl, if_pos (by omega)]
            exact (htr i hi).1
      · have h2 : ¬ left = 0 := fun z => h2 (by rw [z]; rfl)
        have e : f_sw k 0 left lg tr st = st := if_neg (fun z => h2 z.1)
        rw [e] at hsp
        refine And.intro (fun h3 => ?_) (fun h3 => ?_)
        · exact hsp M f_ex.rf (fun _ _ => rfl) hmo hst hbe
        · refine absurd ?_ h3
          show (-1 : Int32) ≤ M.1 48 3
          rw [hmo]
          exact f_pm_m1 (by omega)
    | succ d =>
      have hsd := hs d rfl
      subst hsd
      have hres : ∀ a, f_sw p (d + 1) left lg tr a = f_lp (fun n a => if left ≤ n * (d + 1) then f_sw p d (left - n) n (fun i => if i + (d + 1) = p then n else tr i) a else a) (min lg left) 1 a := fun _ => rfl
      rw [hres] at hsp
      generalize hF : (fun (n : Nat) (a : fSw) => if left ≤ n * (d + 1) then f_sw p d (left - n) n (fun i => if i + (d + 1) = p then n else tr i) a else a) = F at hsp
      have loop : ∀ (m j : Nat) (a : fSw) (M' : fMem), j + m = min lg left + 1 → 1 ≤ j → f_lp F m j a = f_lp F (min lg left) 1 st → f_ex [48, 50, 51] [] M M' → (∀ i, i < k → M'.1 50 i = M.1 50 i) → M'.1 48 3 = f_pm a.1 → a.1 < 1000 → (∀ i, i < p → M'.1 51 i = a.2 i) → X f_GX 59 [some (.ref 48), some (.int (nI left)), some (.int (nI p)), some (.int (nI k)), some (.int (nI lg)), some (.int (nI j))] [] M' := by
        intro m
        induction m with
        | zero =>
          intro j a M' hj hj1 hv he htr' hmo' ha hbe'
          have hv : a = f_lp F (min lg left) 1 st := hv
          have done : R f_GX none M' := hsp M' he htr' (by rw [← hv]; exact hmo') (by rw [← hv]; exact ha) (by rw [← hv]; exact hbe')
          refine f_run_ok (stop := fun q => false) hX 10 _ _ _ _ _ ?_
          refine And.intro (fun h => done) (fun h => ?_)
          have h : ¬ lg < j := fun z => h (nI_lt z (by omega))
          refine And.intro (fun h2 => done) (fun h2 => ?_)
          have h2 : ¬ left < j := fun z => h2 (nI_lt z (by omega))
          omega
        | succ m ih =>
          intro j a M' hj hj1 hv he htr' hmo' ha hbe'
          have hv : f_lp F m (j + 1) (F j a) = f_lp F (min lg left) 1 st := hv
          have hFj : F j a = if left ≤ j * (d + 1) then f_sw p d (left - j) j (fun i => if i + (d + 1) = p then j else tr i) a else a := by rw [← hF]
          refine f_run_ok (stop := fun q => Nat.beq q 59 || Nat.beq q 106) hX 60 _ _ _ _ _ ?_
          refine And.intro (fun h => absurd ((nI_ltI (by omega) (by omega)).mp h) (by omega)) (fun h => ?_)
          refine And.intro (fun h2 => absurd ((nI_ltI (by omega) (by omega)).mp h2) (by omega)) (fun h2 => ?_)
          have hmul : nI j * (nI p - nI k) = nI (j * (d + 1)) := by
            rw [pk_sub (by omega), show p - k = d + 1 by omega]
            exact (Int32.ofNat_mul j (d + 1)).symm
          have hjb : j * (d + 1) ≤ 17 * 6 := Nat.mul_le_mul (by omega) (by omega)
          refine And.intro (fun h3 => ?_) (fun h3 => ?_)
          · have h3 : nI j * (nI p - nI k) < nI left := h3
            rw [hmul] at h3
            have h3 := (nI_ltI (by omega) (by omega)).mp h3
            rw [if_neg (by omega)] at hFj
            rw [hFj] at hv
            have q := ih (j + 1) a M' (by omega) (by omega) hv he htr' hmo' ha hbe'
            rw [nI_succ] at q
            refine f_run_ok (stop := fun q => Nat.beq q 59) hX 10 _ _ _ _ _ ?_
            exact q
          · have h3 : ¬ nI j * (nI p - nI k) < nI left := h3
            rw [hmul] at h3
            have h3 : ¬ j * (d + 1) < left := fun z => h3 (nI_lt z (by omega))
            rw [if_pos (by omega)] at hFj
            have q : S_swo d f_GX [.ref 48, .int (nI left - nI j), .int (nI p), .int (nI k + 1), .int (nI j)] (f_up M'.1 50 k (nI j), M'.2) (fun G' v M2 => X G' 106 [some (.ref 48), some (.int (nI left)), some (.int (nI p)), some (.int (nI k)), some (.int (nI lg)), some (.int (nI j))] (f_ans v []) M2) := by
              refine ⟨left - j, p, k + 1, j, (fun i => if i + (d + 1) = p then j else tr i), a, rfl, pk_sub (by omega), by omega, rfl, hp, (nI_succ k).symm, by omega, rfl, by omega, fun i hi => ?_, hmo', ha, hbe', fun M2 he2 htr2 hmo2 ha2 hbe2 => ?_⟩
              · show (if 50 = 50 then (if i = k then nI j else M'.1 50 i) else M'.1 50 i) = nI (if i + (d + 1) = p then j else tr i) ∧ (if i + (d + 1) = p then j else tr i) < 1000
                rw [if_pos rfl]
                by_cases e : i = k
                · rw [if_pos e, if_pos (show i + (d + 1) = p by omega)]
                  exact ⟨rfl, by omega⟩
                · rw [if_neg e, if_neg (show ¬ i + (d + 1) = p by omega), htr' i (by omega)]
                  exact htr i (by omega)
              · rw [← hFj] at hmo2 ha2 hbe2
                show X f_GX 106 [some (.ref 48), some (.int (nI left)), some (.int (nI p)), some (.int (nI k)), some (.int (nI lg)), some (.int (nI j))] [] M2
                refine f_run_ok (stop := fun q => Nat.beq q 59) hX 10 _ _ _ _ _ ?_
                have q := ih (j + 1) (F j a) M2 (by omega) (by omega) hv ((he.up (by decide)).tr he2) (fun i hi => by
                  rw [htr2 i (by omega)]
                  show (if 50 = 50 then (if i = k then nI j else M'.1 50 i) else M'.1 50 i) = _
                  rw [if_pos rfl, if_neg (by omega)]
                  exact htr' i hi) hmo2 ha2 hbe2
                rw [nI_succ] at q
                exact q
            rw [← f_pt_in (n := 6) (by omega) (by decide)] at q
            exact q
      refine f_run_ok (stop := fun q => Nat.beq q 59) hX 30 _ _ _ _ _ ?_
      refine And.intro (fun h => absurd ((nI_leI (by omega) (by omega)).mp h) (by omega)) (fun h => ?_)
      refine And.intro (fun h2 => ?_) (fun h2 => absurd (nI_lt (b := 6) (by omega) (by omega)) h2)
      exact loop (min lg left) 1 st M (by omega) (by omega) rfl f_ex.rf (fun _ _ => rfl) hmo hst hbe
def S_swu : fSp := fun G As M R => match As with
  | [.ref 48, .int zl, .int zp] => ∃ (L p : Nat) (tr : Nat → Nat), G = f_GX ∧ zl = nI L ∧ L ≤ 17 ∧ zp = nI p ∧ p ≤ 6 ∧ (∀ M', f_ex [48, 50, 51] [] M M' → M'.1 48 3 = f_pm (f_sw p p L L tr (0, M.1 51)).1 → (f_sw p p L L tr (0, M.1 51)).1 < 1000 → (∀ i, i < p → M'.1 51 i = (f_sw p p L L tr (0, M.1 51)).2 i) → R G none M')
  | _ => False
def S_sw6 : fSp := fun G As M R => ∃ d, S_swo d G As M R
set_option maxRecDepth 20000 in
theorem m_swu : f_Meets 3 (kX9_sawUp S_sw6) S_swu := by
  intro G As M R hsp X hX hW
  match As, hsp with
  | [.ref 48, .int zl, .int zp], ⟨L, p, tr, hG, hzl, hL, hzp, hp, hsp⟩ =>
    subst hG; subst hzl; subst hzp
    refine f_run_ok (stop := fun q => false) hX 20 _ _ _ _ _ ?_
    refine ⟨p, L, p, 0, L, tr, (0, M.1 51), rfl, rfl, hL, rfl, hp, rfl, by omega, rfl, hL, fun i hi => by omega, rfl, by show 0 < 1000; omega, fun i hi => rfl, fun M' he htr hmo hlt hbe => ?_⟩
    exact hsp M' ((f_ex.rf.up (cs := [48, 50, 51]) (c := 48) (by decide)).tr he) hmo hlt hbe
