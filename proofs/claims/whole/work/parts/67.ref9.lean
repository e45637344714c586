/-! ===== the reference: none (boxes without triangles) ===== -/
def f_ifr (g : Nat → Nat) (S a : Nat) : Bool := decide (∀ i, i < a → ∀ j, j < a → (i < j ∧ S.testBit i = true ∧ S.testBit j = true) → f_clz (g i) (g j) (g a) = false)
def f_fb (S : Nat) (st : Nat × Nat) : Nat × Nat := (if st.1 ≤ f_pc S then f_pc S + 1 else st.1, if st.1 ≤ f_pc S ∨ (st.1 = f_pc S + 1 ∧ S < st.2) then S else st.2)
def f_fr (g : Nat → Nat) (n : Nat) : Nat → Nat → Nat × Nat → Nat × Nat
  | 0, S, st => f_fb S st
  | d + 1, S, st => if f_ifr g S (n - (d + 1)) = true then f_fr g n d (S ||| 2 ^ (n - (d + 1))) (f_fr g n d S st) else f_fr g n d S st
theorem n_sb2 {n k j : Nat} (hn : n < 2 ^ 31) (hk : k < 31) (hj : j < 31) : (nI n >>> (nI k &&& 31)) &&& (nI n >>> (nI j &&& 31)) &&& 1 = f_b (n.testBit k && n.testBit j) := by
  have h1 := n_sb hn hj
  have h2 := n_sb hn hk
  have e : (nI n >>> (nI k &&& 31)) &&& (nI n >>> (nI j &&& 31)) &&& 1 = ((nI n >>> (nI k &&& 31)) &&& 1) &&& ((nI n >>> (nI j &&& 31)) &&& 1) := by
    generalize nI n >>> (nI k &&& 31) = x
    generalize nI n >>> (nI j &&& 31) = y
    refine Int32.toBitVec_inj.mp ?_
    show x.toBitVec &&& y.toBitVec &&& 1#32 = x.toBitVec &&& 1#32 &&& (y.toBitVec &&& 1#32)
    apply BitVec.eq_of_getLsbD_eq
    intro i hi
    simp only [BitVec.getLsbD_and]
    cases x.toBitVec.getLsbD i <;> cases y.toBitVec.getLsbD i <;> cases (1#32 : BitVec 32).getLsbD i <;> rfl
  rw [e, h1, h2]
  cases n.testBit k <;> cases n.testBit j <;> rfl
def S_ifr : fSp := fun G As M R => match As with
  | [.ref 100, .int zs, .int za] => ∃ (S a n : Nat) (g : Nat → Nat), G = f_GM ∧ zs = nI S ∧ S < 2 ^ 17 ∧ za = nI a ∧ a < n ∧ n ≤ 10 ∧ (∀ i, i < n → M.1 101 (45 + i) = nI (g i) ∧ g i < 1000) ∧ R G (some (.int (f_b (f_ifr g S a)))) M
  | _ => False
set_option maxRecDepth 20000 in
theorem m_ifr : f_Meets 5 (kX12_isFree S_closing) S_ifr := by
  intro G As M R hsp X hX hW
  match As, hsp with
  | [.ref 100, .int zs, .int za], ⟨S, a, n, g, hG, hzs, hS, hza, han, hn, hg, hsp⟩ =>
    subst hG; subst hzs; subst hza
    have rdx : ∀ x, x < n → vp_in (45 + nI x) 906 ∧ M.1 101 (45 + nI x).toNatClampNeg = nI (g x) := fun x hx => by
      obtain ⟨c, d⟩ := f_ix (n := 906) (show 45 + nI x = nI (45 + x) from nI_add 45 x) (by omega) (by omega)
      exact ⟨c, by rw [d]; exact (hg x hx).1⟩
    have no : ∀ i j, i < j → j < a → S.testBit i = true → S.testBit j = true → f_clz (g i) (g j) (g a) = true → f_ifr g S a = false := by
      intro i j h1 h2 h3 h4 h5
      refine decide_eq_false (fun z => ?_)
      have := z i (by omega) j h2 ⟨h1, h3, h4⟩
      rw [h5] at this
      cases this
    have inner : ∀ (i : Nat) (K : ∀ u, (∀ j, i < j → j < a → S.testBit i = true → S.testBit j = true → f_clz (g i) (g j) (g a) = false) → X f_GM 74 [some (.ref 100), some (.int (nI S)), some (.int (nI a)), some (.int (nI i)), u] [] M), i < a → ∀ t j, j + t = a → i < j → (∀ y, i < y → y < j → S.testBit i = true → S.testBit y = true → f_clz (g i) (g y) (g a) = false) → X f_GM 12 [some (.ref 100), some (.int (nI S)), some (.int (nI a)), some (.int (nI i)), some (.int (nI j))] [] M := by
      intro i K hi t
      induction t with
      | zero =>
        intro j hj hij hc
        have hj : j = a := by omega
        subst hj
        refine f_run_ok (stop := fun q => Nat.beq q 74) hX 20 _ _ _ _ _ ?_
        exact And.intro (fun _ => K _ hc) (fun z => absurd (nI_le (Nat.le_refl _) (by omega)) z)
      | succ t ih =>
        intro j hj hij hc
        have q := ih (j + 1) (by omega) (by omega)
        rw [nI_succ j] at q
        refine f_run_ok (stop := fun q => Nat.beq q 12 || Nat.beq q 68) hX 40 _ _ _ _ _ ?_
        refine And.intro (fun z => absurd ((nI_leI (by omega) (by omega)).mp z) (by omega)) (fun _ => ?_)
        have eb := n_sb2 (n := S) (k := i) (j := j) (by omega) (by omega) (by omega)
        have skip : (S.testBit i = true → S.testBit j = true → f_clz (g i) (g j) (g a) = false) → X f_GM 68 [some (.ref 100), some (.int (nI S)), some (.int (nI a)), some (.int (nI i)), some (.int (nI j))] [] M := by
          intro hs
          refine f_run_ok (stop := fun q => Nat.beq q 12) hX 20 _ _ _ _ _ ?_
          refine q (fun y h1 h2 h3 h4 => ?_)
          by_cases e : y = j
          · subst e; exact hs h3 h4
          · exact hc y h1 (by omega) h3 h4
        refine And.intro (fun h => ?_) (fun h => ?_)
        · have h : (nI S >>> (nI i &&& 31)) &&& (nI S >>> (nI j &&& 31)) &&& 1 = 1 := h
          rw [eb] at h
          have h := f_b1.mp h
          rw [Bool.and_eq_true] at h
          refine And.intro (rdx i (by omega)).1 (And.intro (rdx j (by omega)).1 (And.intro (rdx a han).1 ⟨g i, g j, g a, (rdx i (by omega)).2, (rdx j (by omega)).2, (rdx a han).2, (hg i (by omega)).2, (hg j (by omega)).2, (hg a han).2, ?_⟩))
          refine And.intro (fun h2 => skip (fun _ _ => f_b0.mp h2)) (fun h2 => ?_)
          rw [no i j hij (by omega) h.1 h.2 (f_b_nt h2)] at hsp
          exact And.intro rfl hsp
        · have h : ¬ (nI S >>> (nI i &&& 31)) &&& (nI S >>> (nI j &&& 31)) &&& 1 = 1 := h
          rw [eb] at h
          exact skip (fun h1 h2 => absurd (show f_b (S.testBit i && S.testBit j) = 1 by rw [h1, h2]; rfl) h)
    have outer : ∀ (t i : Nat) (u : Option Value), i + t = a → (∀ x y, x < i → x < y → y < a → S.testBit x = true → S.testBit y = true → f_clz (g x) (g y) (g a) = false) → X f_GM 2 [some (.ref 100), some (.int (nI S)), some (.int (nI a)), some (.int (nI i)), u] [] M := by
      intro t
      induction t with
      | zero =>
        intro i u hi hc
        have hi : i = a := by omega
        subst hi
        refine f_run_ok (stop := fun q => false) hX 20 _ _ _ _ _ ?_
        refine And.intro (fun _ => ?_) (fun z => absurd (nI_le (Nat.le_refl _) (by omega)) z)
        have e : f_ifr g S i = true := decide_eq_true (fun x hx y hy h => hc x y hx h.1 hy h.2.1 h.2.2)
        rw [e] at hsp
        exact And.intro rfl hsp
      | succ t ih =>
        intro i u hi hc
        refine f_run_ok (stop := fun q => Nat.beq q 12) hX 20 _ _ _ _ _ ?_
        refine And.intro (fun z => absurd ((nI_leI (by omega) (by omega)).mp z) (by omega)) (fun _ => ?_)
        have q := inner i (fun u hd => by
          have q := ih (i + 1) u (by omega) (fun x y h1 h2 h3 h4 h5 => by
            by_cases e : x = i
            · subst e; exact hd y h2 h3 h4 h5
            · exact hc x y (by omega) h2 h3 h4 h5)
          rw [nI_succ i] at q
          refine f_run_ok (stop := fun q => Nat.beq q 2) hX 20 _ _ _ _ _ ?_
          exact q) (by omega) (a - (i + 1)) (i + 1) (by omega) (by omega) (fun y h1 h2 => absurd h1 (by omega))
        rw [nI_succ i] at q
        exact q
    refine f_run_ok (stop := fun q => Nat.beq q 2) hX 20 _ _ _ _ _ ?_
    exact outer a 0 none (by omega) (fun x y h => absurd h (Nat.not_lt_zero x))
def S_ff (d : Nat) : fSp := fun G As M R => match As with
  | [.ref 100, .int zk, .int zs] => ∃ (k S n : Nat) (g : Nat → Nat) (st : Nat × Nat), G = f_GM ∧ zk = nI k ∧ k + d = n ∧ n ≤ 10 ∧ zs = nI S ∧ S < 2 ^ k ∧ M.1 101 2 = nI n ∧ (∀ i, i < n → M.1 101 (45 + i) = nI (g i) ∧ g i < 1000) ∧ M.1 100 27 = f_pm st.1 ∧ st.1 ≤ 18 ∧ M.1 100 28 = nI st.2 ∧ st.2 < 2 ^ 17 ∧ (∀ M', f_em [1027, 1028] M M' → M'.1 100 27 = f_pm (f_fr g n d S st).1 → (f_fr g n d S st).1 ≤ 18 → M'.1 100 28 = nI (f_fr g n d S st).2 → (f_fr g n d S st).2 < 2 ^ 17 → R G none M')
  | _ => False
theorem f_pm_lt {t s : Nat} (ht : t < 2 ^ 31) (hs : s < 2 ^ 31) : f_pm s < nI t ↔ s ≤ t := by
  have := f_pm_le (t := t) (s := s) ht hs
  constructor
  · intro h
    by_cases e : s ≤ t
    · exact e
    · exact absurd h (Int32.not_lt.mpr (this.mpr (by omega)))
  · intro h
    exact Int32.not_le.mp (fun z => by have := this.mp z; omega)
theorem f_pm_eq {t s : Nat} (ht : t < 2 ^ 31) (hs : s < 2 ^ 31) : nI t = f_pm s ↔ s = t + 1 := by
  cases s with
  | zero => exact ⟨fun h => absurd h (f_n1 ht), fun h => by omega⟩
  | succ s =>
    show nI t = nI s ↔ _
    rw [nI_eq ht (by omega)]
    omega
set_option maxRecDepth 20000 in
theorem m_ff (d : Nat) (sp : fSp) (hs : ∀ e, d = e + 1 → sp = S_ff e) : f_Meets 4 (kX12_freesFrom S_cnt sp S_ifr) (S_ff d) := by
  intro G As M R hsp X hX hW
  match As, hsp with
  | [.ref 100, .int zk, .int zs], ⟨k, S, n, g, st, hG, hzk, hkd, hn, hzs, hS, hm, hg, h27, hst, h28, hst2, hsp⟩ =>
    subst hG; subst hzk; subst hzs
    have hk10 : 2 ^ k ≤ 2 ^ 10 := Nat.pow_le_pow_right (by decide) (by omega)
    cases d with
    | zero =>
      have hkn : k = n := by omega
      subst hkn
      have hpc : f_pc S ≤ 17 := f_cnt_le _ 17
      have hres : f_fr g k 0 S st = f_fb S st := rfl
      rw [hres] at hsp
      refine f_run_ok (stop := fun q => Nat.beq q 40 || Nat.beq q 44) hX 30 _ _ _ _ _ ?_
      refine And.intro (v9 2 (by decide)) (And.intro (fun _ => ?_) (fun z => absurd hm.symm z))
      refine ⟨S, rfl, by omega, ?_⟩
      -- the set is taken, then the count
      have fin : ∀ (w : Nat), w = (f_fb S st).2 → w < 2 ^ 17 → X f_GM 48 [some (.ref 100), some (.int (nI k)), some (.int (nI S)), some (.int (nI (f_pc S)))] [.int (nI w), .ref 100] M := by
        intro w hw hwb
        refine f_run_ok (stop := fun q => false) hX 30 _ _ _ _ _ ?_
        refine And.intro (fun h => ?_) (fun h => ?_)
        · have h : nI (f_pc S) ≤ M.1 100 27 := h
          rw [h27, f_pm_le (by omega) (by omega)] at h
          have e : (f_fb S st).1 = st.1 := if_neg (by omega)
          refine hsp (f_up (f_up M.1 100 28 (nI w)) 100 27 (M.1 100 27), M.2) ((f_em.rf.uf (by decide)).uf (k := 27) (by decide)) ?_ (by rw [e]; exact hst) ?_ (by rw [← hw]; exact hwb)
          · show M.1 100 27 = _; rw [e]; exact h27
          · show nI w = _; rw [hw]
        · have h : ¬ nI (f_pc S) ≤ M.1 100 27 := h
          rw [h27, f_pm_le (by omega) (by omega)] at h
          have e : (f_fb S st).1 = f_pc S + 1 := if_pos (by omega)
          refine hsp (f_up (f_up M.1 100 28 (nI w)) 100 27 (nI (f_pc S)), M.2) ((f_em.rf.uf (by decide)).uf (k := 27) (by decide)) ?_ (by rw [e]; omega) ?_ (by rw [← hw]; exact hwb)
          · show nI (f_pc S) = _; rw [e]; rfl
          · show nI w = _; rw [hw]
      have take : (st.1 ≤ f_pc S ∨ (st.1 = f_pc S + 1 ∧ S < st.2)) → X f_GM 40 [some (.ref 100), some (.int (nI k)), some (.int (nI S)), some (.int (nI (f_pc S)))] [.ref 100] M := by
        intro h
        refine f_run_ok (stop := fun q => Nat.beq q 48) hX 30 _ _ _ _ _ ?_
        exact fin S (by show S = if _ then S else st.2; rw [if_pos h]) (by omega)
      have keep : ¬ (st.1 ≤ f_pc S ∨ (st.1 = f_pc S + 1 ∧ S < st.2)) → X f_GM 44 [some (.ref 100), some (.int (nI k)), some (.int (nI S)), some (.int (nI (f_pc S)))] [.ref 100] M := by
        intro h
        refine f_run_ok (stop := fun q => Nat.beq q 48) hX 30 _ _ _ _ _ ?_
        have q := fin st.2 (by show st.2 = if _ then S else st.2; rw [if_neg h]) hst2
        rw [← h28] at q
        exact q
      refine And.intro (fun h => ?_) (fun h => And.intro (fun h2 => And.intro (fun h3 => ?_) (fun h3 => ?_)) (fun h2 => ?_))
      · have h : M.1 100 27 < nI (f_pc S) := h
        rw [h27, f_pm_lt (by omega) (by omega)] at h
        exact take (Or.inl h)
      · have h : ¬ M.1 100 27 < nI (f_pc S) := h
        rw [h27, f_pm_lt (by omega) (by omega)] at h
        have h3 : M.1 100 28 ≤ nI S := h3
        rw [h28] at h3
        have h3 := (nI_leI (by omega) (by omega)).mp h3
        exact keep (by omega)
      · have h2 : nI (f_pc S) = M.1 100 27 := h2
        rw [h27, f_pm_eq (by omega) (by omega)] at h2
        have h3 : ¬ M.1 100 28 ≤ nI S := h3
        rw [h28] at h3
        have h3 : ¬ st.2 ≤ S := fun z => h3 (nI_le z (by omega))
        exact take (Or.inr ⟨h2, by omega⟩)
      · have h : ¬ M.1 100 27 < nI (f_pc S) := h
        rw [h27, f_pm_lt (by omega) (by omega)] at h
        have h2 : ¬ nI (f_pc S) = M.1 100 27 := h2
        rw [h27, f_pm_eq (by omega) (by omega)] at h2
        exact keep (by omega)
    | succ d =>
      have hsd := hs d rfl
      subst hsd
      have hk : n - (d + 1) = k := by omega
      have hp1 : 2 ^ (k + 1) = 2 ^ k * 2 := Nat.pow_succ 2 k
      have hS1 : S < 2 ^ (k + 1) := by omega
      have hres : f_fr g n (d + 1) S st = if f_ifr g S k = true then f_fr g n d (S ||| 2 ^ k) (f_fr g n d S st) else f_fr g n d S st := by
        show (if f_ifr g S (n - (d + 1)) = true then f_fr g n d (S ||| 2 ^ (n - (d + 1))) (f_fr g n d S st) else f_fr g n d S st) = _
        rw [hk]
      refine f_run_ok (stop := fun q => Nat.beq q 80) hX 30 _ _ _ _ _ ?_
      refine And.intro (v9 2 (by decide)) (And.intro (fun z => ?_) (fun _ => ?_))
      · have z : nI k = M.1 101 2 := z
        rw [hm] at z
        exact absurd ((nI_eq (by omega) (by omega)).mp z) (by omega)
      refine ⟨k + 1, S, n, g, st, rfl, (nI_succ k).symm, by omega, hn, rfl, hS1, hm, hg, h27, hst, h28, hst2, fun M1 he1 a1 a2 a3 a4 => ?_⟩
      have e101 : M1.1 101 = M.1 101 := he1.1 101 (by decide) (by decide)
      show X f_GM 80 [some (.ref 100), some (.int (nI k)), some (.int (nI S)), none] [] M1
      refine f_run_ok (stop := fun q => Nat.beq q 101) hX 30 _ _ _ _ _ ?_
      refine ⟨S, k, n, g, rfl, rfl, by omega, rfl, by omega, hn, fun i hi => by rw [e101]; exact hg i hi, ?_⟩
      refine And.intro (fun h => ?_) (fun h => ?_)
      · have h := f_b0.mp h
        rw [hres, if_neg (by rw [h]; decide)] at hsp
        exact f_run_ok (stop := fun _ => false) hX 10 _ _ _ _ _ (hsp M1 he1 a1 a2 a3 a4)
      · have h := f_b_nt h
        rw [hres, if_pos h] at hsp
        have hor : S ||| 2 ^ k < 2 ^ (k + 1) := by
          rw [hp1]
          have := Nat.or_lt_two_pow hS1 (show 2 ^ k < 2 ^ (k + 1) by omega)
          omega
        refine ⟨k + 1, S ||| 2 ^ k, n, g, f_fr g n d S st, rfl, (nI_succ k).symm, by omega, hn, n_orbit (by omega), hor, by rw [e101]; exact hm, fun i hi => by rw [e101]; exact hg i hi, a1, a2, a3, a4, fun M2 he2 c1 c2 c3 c4 => ?_⟩
        exact f_run_ok (stop := fun _ => false) hX 10 _ _ _ _ _ (hsp M2 (he1.tr he2) c1 c2 c3 c4)
