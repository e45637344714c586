/-! ===== the reference: looksForFree ===== -/
theorem f_cr_add (S : Nat) : ∀ (m n j : Nat), f_cr S (m + n) j = f_cr S m j + f_cr S n (j + m) := by
  intro m
  induction m with
  | zero => intro n j; rw [Nat.zero_add]; exact (Nat.zero_add _).symm
  | succ m ih =>
    intro n j
    rw [show m + 1 + n = (m + n) + 1 by omega]
    show (if S.testBit j = true then 1 else 0) + f_cr S (m + n) (j + 1) = (if S.testBit j = true then 1 else 0) + f_cr S m (j + 1) + f_cr S n (j + (m + 1))
    rw [ih, show j + 1 + m = j + (m + 1) by omega]
    omega
theorem f_cr_z {S : Nat} : ∀ (n j : Nat), (∀ x, j ≤ x → S.testBit x = false) → f_cr S n j = 0 := by
  intro n
  induction n with
  | zero => intro j _; rfl
  | succ n ih =>
    intro j h
    show (if S.testBit j = true then 1 else 0) + f_cr S n (j + 1) = 0
    rw [h j (Nat.le_refl _), ih (j + 1) (fun x hx => h x (by omega))]
    rfl
theorem f_pcs_cr {L br : Nat} : ∀ (n p f : Nat), p + n = L → (f_pcs L br (n + 1) p f).length = f_cr br n p + 1 := by
  intro n
  induction n with
  | zero =>
    intro p f h
    show (if p = L ∨ br.testBit p = true then (f, p) :: f_pcs L br 0 (p + 1) p else f_pcs L br 0 (p + 1) f).length = 0 + 1
    rw [if_pos (Or.inl (by omega))]
    rfl
  | succ n ih =>
    intro p f h
    show (if p = L ∨ br.testBit p = true then (f, p) :: f_pcs L br (n + 1) (p + 1) p else f_pcs L br (n + 1) (p + 1) f).length = (if br.testBit p = true then 1 else 0) + f_cr br n (p + 1) + 1
    by_cases hb : br.testBit p = true
    · rw [if_pos (Or.inr hb), if_pos hb, List.length_cons, ih (p + 1) p (by omega)]
      omega
    · rw [if_neg (fun z => z.elim (by omega) hb), if_neg hb, ih (p + 1) f (by omega)]
      omega
theorem f_pc0_len {L br : Nat} (h1 : 1 ≤ L) (h17 : L ≤ 17) (hb : br < 2 ^ L) (h0 : br.testBit 0 = false) : (f_pc0 L br).length = f_pc br + 1 := by
  obtain ⟨n, rfl⟩ : ∃ n, L = n + 1 := ⟨L - 1, by omega⟩
  have e1 : (f_pc0 (n + 1) br).length = f_cr br n 1 + 1 := f_pcs_cr n 1 0 (by omega)
  have e2 : f_pc br = f_cr br 17 0 := (f_cr_pc br).symm
  have e3 : f_cr br 17 0 = f_cr br 16 1 := by
    show (if br.testBit 0 = true then 1 else 0) + f_cr br 16 1 = _
    rw [h0]
    exact Nat.zero_add _
  have e4 : f_cr br 16 1 = f_cr br n 1 := by
    rw [show (16 : Nat) = n + (16 - n) by omega, f_cr_add, f_cr_z (16 - n) (1 + n) (fun x hx => Nat.testBit_lt_two_pow (Nat.lt_of_lt_of_le hb (Nat.pow_le_pow_right (by decide) (by omega))))]
    exact Nat.add_zero _
  rw [e1, e2, e3, e4]
theorem f_hsm_pos {f t c k x : Nat} : ∀ rs : List fRl, 0 < f_hsm rs f t c k x ↔ f_hard rs f t c k x = true := by
  intro rs
  unfold f_hsm f_hard
  induction rs with
  | nil => exact ⟨fun h => absurd h (Nat.lt_irrefl 0), fun h => by cases h⟩
  | cons q rs ih =>
    rw [List.map_cons, List.sum_cons, List.any_cons, Bool.or_eq_true, ← ih]
    by_cases h1 : q.1 = false
    · by_cases h2 : f_hold q.2.2 f t c k x = true
      · rw [if_pos ⟨h1, h2⟩, h1, h2]
        simp
        omega
      · rw [if_neg (fun z => h2 z.2)]
        simp [h2]
    · rw [if_neg (fun z => h1 z.1)]
      have : q.1 = true := by cases hq : q.1 with
        | true => rfl
        | false => exact absurd hq h1
      simp [this]
theorem f_hsm_le {f t c k x : Nat} : ∀ rs : List fRl, f_rok rs → f_hsm rs f t c k x ≤ rs.length * 99 ∧ f_psm rs f t c k x ≤ rs.length * 99 := by
  intro rs
  induction rs with
  | nil => intro _; exact ⟨Nat.le_refl _, Nat.le_refl _⟩
  | cons q rs ih =>
    intro h
    have hq := (h q List.mem_cons_self).1
    have hr := ih (fun y hy => h y (List.mem_cons_of_mem _ hy))
    unfold f_hsm f_psm at *
    rw [List.map_cons, List.sum_cons, List.map_cons, List.sum_cons, List.length_cons]
    refine ⟨?_, ?_⟩
    · have : (if q.1 = false ∧ f_hold q.2.2 f t c k x = true then q.2.1 else 0) ≤ 99 := by split <;> omega
      omega
    · have : (if q.1 = true ∧ f_hold q.2.2 f t c k x = true then q.2.1 else 0) ≤ 99 := by split <;> omega
      omega
def f_LFL : List Nat := [103, 104, 105, 106, 107, 108, 1011, 1012, 1017]
/-- the pieces, what is free in each, what a break costs -/
def f_PF (M : fMem) (rs : List fRl) (c kd : Nat) (ps : List (Nat × Nat)) : Prop := f_PC M ps ∧ (∀ (k : Nat) (q : Nat × Nat), ps[k]? = some q → M.1 107 k = nI (f_frb rs q.1 q.2 c kd)) ∧ ∀ (q : Nat × Nat) (x : Nat), q ∈ ps → q.1 < x → x < q.2 → M.1 108 x = nI (f_psm rs q.1 q.2 c kd x)
def S_lff : fSp := fun G As M R => match As with
  | [.ref 100, .int zb, .int z] => ∃ (y : fYd) (b br kd : Nat), G = f_GM ∧ f_HR 101 y M ∧ f_rok y.2.2 ∧ y.2.2.length ≤ 10 ∧ 1 ≤ y.1 ∧ y.1 ≤ 17 ∧ zb = nI b ∧ b < 6 ∧ M.1 101 (9 + b) = nI kd ∧ kd < 7 ∧ z = nI br ∧ br < 2 ^ y.1 ∧ br.testBit 0 = false ∧ (∀ M', f_em f_LFL M M' → f_PF M' y.2.2 (f_pc br) kd (f_pc0 y.1 br) → R G none M')
  | _ => False
theorem f_pcs_ord {L br : Nat} : ∀ (n p f : Nat), f < p → (∀ q ∈ f_pcs L br n p f, f ≤ q.1 ∧ q.1 < q.2) ∧ ∀ (k j : Nat) (q r : Nat × Nat), k < j → (f_pcs L br n p f)[k]? = some q → (f_pcs L br n p f)[j]? = some r → q.2 ≤ r.1 := by
  intro n
  induction n with
  | zero => intro p f _; exact ⟨fun q hq => by simp [f_pcs] at hq, fun k j q r _ hq => by simp [f_pcs] at hq⟩
  | succ n ih =>
    intro p f hf
    unfold f_pcs
    by_cases h : p = L ∨ br.testBit p = true
    · rw [if_pos h]
      obtain ⟨a, b⟩ := ih (p + 1) p (by omega)
      refine ⟨fun q hq => ?_, fun k j q r hkj hq hr => ?_⟩
      · rcases List.mem_cons.mp hq with e | e
        · rw [e]; exact ⟨Nat.le_refl _, hf⟩
        · have := a q e; exact ⟨by omega, this.2⟩
      · cases j with
        | zero => omega
        | succ j =>
          have hr : (f_pcs L br n (p + 1) p)[j]? = some r := by simpa using hr
          cases k with
          | zero =>
            have hq : (f, p) = q := by simpa using hq
            subst hq
            exact (a r (List.mem_of_getElem? hr)).1
          | succ k =>
            have hq : (f_pcs L br n (p + 1) p)[k]? = some q := by simpa using hq
            exact b k j q r (by omega) hq hr
    · rw [if_neg h]
      obtain ⟨a, b⟩ := ih (p + 1) f (by omega)
      exact ⟨a, b⟩
set_option maxRecDepth 20000 in
theorem m_lff : f_Meets 5 (kX12_looksForFree S_lfp S_lk) S_lff := by
  intro G As M R hsp X hX hW
  match As, hsp with
  | [.ref 100, .int zb, .int z], ⟨y, b, br, kd, hG, hH, hrok, hr10, h1, h17, hzb, hb, hkd, hkd7, hz, hbr, h0, hsp⟩ =>
    subst hG; subst hzb; subst hz
    have hbr17 : br < 2 ^ 17 := Nat.lt_of_lt_of_le hbr (Nat.pow_le_pow_right (by decide) h17)
    refine f_run_ok (stop := fun q => Nat.beq q 5) hX 20 _ _ _ _ _ ?_
    refine ⟨y, br, rfl, hH, h1, h17, rfl, hbr17, fun M0 he0 hP0 => ?_⟩
    have hlen := f_pc0_len h1 h17 hbr h0
    have hord := (f_pcs_ord (L := y.1) (br := br) y.1 1 0 (by omega)).2
    have hord : ∀ (k j : Nat) (q r : Nat × Nat), k < j → (f_pc0 y.1 br)[k]? = some q → (f_pc0 y.1 br)[j]? = some r → q.2 ≤ r.1 := hord
    show X f_GM 5 [some (.ref 100), some (.int (nI b)), some (.int (nI br)), none, none] [] M0
    generalize f_pc0 y.1 br = ps at *
    have hpl := hP0.2.1
    generalize hc : f_pc br = c at *
    have hLL : ∀ x ∈ [103, 104, 107, 108, 1011, 1012], x ∈ f_LFL := by decide
    have he0 : f_em f_LFL M M0 := he0.mono (by decide)
    have st : ∀ M', f_em [103, 104, 107, 108, 1011, 1012] M0 M' → f_PC M' ps ∧ f_HR 101 y M' ∧ M'.1 101 (9 + b) = nI kd := fun M' he => ⟨hP0.em he (by decide), hH.cg ((he.1 101 (by decide) (by decide)).trans (he0.1 101 (by decide) (by decide))), by rw [he.1 101 (by decide) (by decide), he0.1 101 (by decide) (by decide)]; exact hkd⟩
    have outer : ∀ (t k : Nat) (M' : fMem) (u : Option Value), k + t = ps.length → f_em [103, 104, 107, 108, 1011, 1012] M0 M' → (∀ (j : Nat) (q : Nat × Nat), j < k → ps[j]? = some q → M'.1 107 j = nI (f_frb y.2.2 q.1 q.2 c kd)) → (∀ (j : Nat) (q : Nat × Nat) (x : Nat), j < k → ps[j]? = some q → q.1 < x → x < q.2 → M'.1 108 x = nI (f_psm y.2.2 q.1 q.2 c kd x)) → X f_GM 7 [some (.ref 100), some (.int (nI b)), some (.int (nI br)), some (.int (nI k)), u] [] M' := by
      intro t
      induction t with
      | zero =>
        intro k M' u hk he hf hp
        have hk : k = ps.length := by omega
        obtain ⟨s1, s2, s3⟩ := st M' he
        refine f_run_ok (stop := fun q => false) hX 20 _ _ _ _ _ ?_
        refine And.intro (fun _ => ?_) (fun z => ?_)
        · refine hsp M' (he0.tr (he.mono hLL)) ⟨s1, fun j q hq => hf j q ?_ hq, fun q x hq h1 h2 => ?_⟩
          · have := (List.getElem?_eq_some_iff.mp hq).1; omega
          · obtain ⟨j, hj⟩ := List.getElem?_of_mem hq
            exact hp j q x (by have := (List.getElem?_eq_some_iff.mp hj).1; omega) hj h1 h2
        · have z : ¬ M'.1 100 17 ≤ nI k := z
          rw [s1.1] at z
          exact absurd (nI_le (by omega) (by omega)) z
      | succ t ih =>
        intro k M' u hk he hf hp
        obtain ⟨q, hq⟩ : ∃ q, ps[k]? = some q := ⟨ps[k], List.getElem?_eq_getElem (by omega)⟩
        obtain ⟨k1, k2⟩ := f_ix (z := nI k) (n := 17) rfl (by omega) (by omega)
        generalize hPP : (fun x => decide (q.1 < x) && !f_hard y.2.2 q.1 q.2 c kd x) = PP
        have hfrb : f_frb y.2.2 q.1 q.2 c kd = f_bits q.2 PP := by rw [← hPP]; rfl
        have inner : ∀ (m x : Nat) (M2 : fMem), x + m = q.2 → q.1 < x → f_em [103, 104, 107, 108, 1011, 1012] M0 M2 → (∀ (j : Nat) (r : Nat × Nat), j < k → ps[j]? = some r → M2.1 107 j = nI (f_frb y.2.2 r.1 r.2 c kd)) → (∀ (j : Nat) (r : Nat × Nat) (z : Nat), j < k → ps[j]? = some r → r.1 < z → z < r.2 → M2.1 108 z = nI (f_psm y.2.2 r.1 r.2 c kd z)) → M2.1 107 k = nI (f_bits x PP) → (∀ z, q.1 < z → z < x → M2.1 108 z = nI (f_psm y.2.2 q.1 q.2 c kd z)) → X f_GM 32 [some (.ref 100), some (.int (nI b)), some (.int (nI br)), some (.int (nI k)), some (.int (nI x))] [] M2 := by
          intro m
          induction m with
          | zero =>
            intro x M2 hx hqx he2 hf2 hp2 hfk hpk
            have hx : x = q.2 := by omega
            obtain ⟨s1, s2, s3⟩ := st M2 he2
            obtain ⟨p1, p2, p3, p4⟩ := s1.2.2 k q hq
            refine f_run_ok (stop := fun q => Nat.beq q 7) hX 40 _ _ _ _ _ ?_
            refine And.intro k1 (And.intro (fun _ => ?_) (fun z => ?_))
            · have nx := ih (k + 1) M2 (some (.int (nI x))) (by omega) he2 (fun j r hj hr => by
                by_cases e : j = k
                · subst e
                  rw [hq] at hr
                  cases hr
                  rw [hfk, hfrb, hx]
                · exact hf2 j r (by omega) hr) (fun j r z hj hr h1 h2 => by
                by_cases e : j = k
                · subst e
                  rw [hq] at hr
                  cases hr
                  exact hpk z h1 (by omega)
                · exact hp2 j r z (by omega) hr h1 h2)
              rw [nI_succ k] at nx
              exact nx
            · have z : ¬ M2.1 106 (nI k).toNatClampNeg ≤ nI x := z
              rw [k2, p2] at z
              exact absurd (nI_le (by omega) (by omega)) z
          | succ m ih2 =>
            intro x M2 hx hqx he2 hf2 hp2 hfk hpk
            obtain ⟨s1, s2, s3⟩ := st M2 he2
            obtain ⟨p1, p2, p3, p4⟩ := s1.2.2 k q hq
            have efr : M2.1 105 (nI k).toNatClampNeg = nI q.1 := by rw [k2]; exact p1
            have eto : M2.1 106 (nI k).toNatClampNeg = nI q.2 := by rw [k2]; exact p2
            obtain ⟨x1, x2⟩ := f_ix (z := nI x) (n := 17) rfl (by omega) (by omega)
            have epc : M2.1 100 17 - 1 = nI c := by rw [s1.1, hlen]; exact nI_pred c
            have hc17 : c ≤ 17 := by omega
            refine f_run_ok (stop := fun q => Nat.beq q 68) hX 60 _ _ _ _ _ ?_
            refine And.intro k1 (And.intro (fun z => ?_) (fun _ => ?_))
            · have z : M2.1 106 (nI k).toNatClampNeg ≤ nI x := z
              rw [eto] at z
              exact absurd ((nI_leI (by omega) (by omega)).mp z) (by omega)
            refine And.intro k1 (And.intro k1 ?_)
            refine ⟨y, b, x, q.1, q.2, c, kd, rfl, s2, hrok, rfl, hb, s3, hkd7, rfl, efr, eto, epc, hqx, by omega, p4, by omega, fun M3 he3 h11 h12 => ?_⟩
            show X f_GM 68 [some (.ref 100), some (.int (nI b)), some (.int (nI br)), some (.int (nI k)), some (.int (nI x))] [] M3
            have he3' : f_em [103, 104, 107, 108, 1011, 1012] M0 M3 := he2.tr (he3.mono (by decide))
            have e107 : M3.1 107 = M2.1 107 := he3.1 107 (by decide) (by decide)
            have e108 : M3.1 108 = M2.1 108 := he3.1 108 (by decide) (by decide)
            obtain ⟨hs1, hs2⟩ := f_hsm_le (f := q.1) (t := q.2) (c := c) (k := kd) (x := x) y.2.2 hrok
            have hpos := f_hsm_pos (f := q.1) (t := q.2) (c := c) (k := kd) (x := x) y.2.2
            have hPx : PP x = !f_hard y.2.2 q.1 q.2 c kd x := by rw [← hPP]; show (decide (q.1 < x) && _) = _; rw [decide_eq_true hqx, Bool.true_and]
            have efk : M3.1 107 (nI k).toNatClampNeg = nI (f_bits x PP) := by rw [k2, e107]; exact hfk
            -- the places written, the next turn
            have fin : ∀ w : Int32, nI (f_bits x PP) ||| w = nI (f_bits (x + 1) PP) → X f_GM 101 [some (.ref 100), some (.int (nI b)), some (.int (nI br)), some (.int (nI k)), some (.int (nI x))] [.int w, .int (nI (f_bits x PP)), .int (nI k), .ref 107] (f_up M3.1 108 x (nI (f_psm y.2.2 q.1 q.2 c kd x)), M3.2) := by
              intro w hw
              refine f_run_ok (stop := fun q => Nat.beq q 32) hX 40 _ _ _ _ _ ?_
              refine And.intro k1 ?_
              show X f_GM 32 [some (.ref 100), some (.int (nI b)), some (.int (nI br)), some (.int (nI k)), some (.int (nI x + 1))] [] (f_up (f_up M3.1 108 x (nI (f_psm y.2.2 q.1 q.2 c kd x))) 107 (nI k).toNatClampNeg (nI (f_bits x PP) ||| w), M3.2)
              rw [k2, hw, ← nI_succ]
              refine ih2 (x + 1) _ (by omega) (by omega) ((he3'.up (c := 108) (by decide)).up (c := 107) (by decide)) (fun j r hj hr => ?_) (fun j r z hj hr h1 h2 => ?_) ?_ (fun z h1 h2 => ?_)
              · show (if j = k then nI (f_bits (x + 1) PP) else M3.1 107 j) = _
                rw [if_neg (by omega), e107]
                exact hf2 j r hj hr
              · show (if z = x then nI (f_psm y.2.2 q.1 q.2 c kd x) else M3.1 108 z) = _
                have := hord j k r q hj hr hq
                rw [if_neg (by omega), e108]
                exact hp2 j r z hj hr h1 h2
              · show (if k = k then nI (f_bits (x + 1) PP) else M3.1 107 k) = _
                rw [if_pos rfl]
              · show (if z = x then nI (f_psm y.2.2 q.1 q.2 c kd x) else M3.1 108 z) = _
                by_cases e : z = x
                · rw [if_pos e, e]
                · rw [if_neg e, e108]
                  exact hpk z h1 (by omega)
            refine f_run_ok (stop := fun q => Nat.beq q 79) hX 40 _ _ _ _ _ ?_
            refine And.intro x1 ?_
            show X f_GM 79 [some (.ref 100), some (.int (nI b)), some (.int (nI br)), some (.int (nI k)), some (.int (nI x))] [] (f_up M3.1 108 (nI x).toNatClampNeg (M3.1 100 12), M3.2)
            rw [x2, h12]
            refine f_run_ok (stop := fun q => Nat.beq q 86) hX 40 _ _ _ _ _ ?_
            refine And.intro k1 ?_
            show X f_GM 86 [some (.ref 100), some (.int (nI b)), some (.int (nI br)), some (.int (nI k)), some (.int (nI x))] [.int (M3.1 107 (nI k).toNatClampNeg), .int (nI k), .ref 107] (f_up M3.1 108 x (nI (f_psm y.2.2 q.1 q.2 c kd x)), M3.2)
            rw [efk]
            refine f_run_ok (stop := fun q => Nat.beq q 101) hX 40 _ _ _ _ _ ?_
            have hbx : f_bits x PP < 2 ^ 17 := Nat.lt_of_lt_of_le (f_bits_lt PP x) (Nat.pow_le_pow_right (by decide) (by omega))
            refine And.intro (fun z => ?_) (fun z => ?_)
            · have z : M3.1 100 11 ≤ 0 := z
              rw [h11] at z
              have z := (f_pos_nI (by omega)).mp z
              have hh : f_hard y.2.2 q.1 q.2 c kd x = false := by
                cases hh : f_hard y.2.2 q.1 q.2 c kd x with
                | false => rfl
                | true => have := hpos.mpr hh; omega
              exact fin ((1 : Int32) <<< (nI x &&& 31)) (by rw [n_orbit (by omega), f_bits_or PP x (by rw [hPx, hh]; rfl)])
            · have z : ¬ M3.1 100 11 ≤ 0 := z
              rw [h11] at z
              have z : ¬ f_hsm y.2.2 q.1 q.2 c kd x = 0 := fun e => z ((f_pos_nI (by omega)).mpr e)
              have hh : f_hard y.2.2 q.1 q.2 c kd x = true := hpos.mp (by omega)
              exact fin 0 (by rw [f_bits_no PP x (by rw [hPx, hh]; rfl)]; show nI (f_bits x PP) ||| nI 0 = _; rw [fa_or, Nat.or_zero])
        obtain ⟨s1, s2, s3⟩ := st M' he
        obtain ⟨p1, p2, p3, p4⟩ := s1.2.2 k q hq
        refine f_run_ok (stop := fun q => Nat.beq q 32) hX 40 _ _ _ _ _ ?_
        refine And.intro (fun z => ?_) (fun _ => ?_)
        · have z : M'.1 100 17 ≤ nI k := z
          rw [s1.1] at z
          exact absurd ((nI_leI (by omega) (by omega)).mp z) (by omega)
        refine And.intro k1 (And.intro k1 ?_)
        show X f_GM 32 [some (.ref 100), some (.int (nI b)), some (.int (nI br)), some (.int (nI k)), some (.int (M'.1 105 (nI k).toNatClampNeg + 1))] [] (f_up M'.1 107 (nI k).toNatClampNeg 0, M'.2)
        rw [k2, p1, ← nI_succ]
        have hz0 : f_bits (q.1 + 1) PP = 0 := by
          have : ∀ n, n ≤ q.1 + 1 → f_bits n PP = 0 := by
            intro n
            induction n with
            | zero => intro _; rfl
            | succ n ihn =>
              intro hn
              rw [f_bits_no PP n (by rw [← hPP]; show (decide (q.1 < n) && _) = false; rw [decide_eq_false (by omega), Bool.false_and]), ihn (by omega)]
          exact this _ (Nat.le_refl _)
        refine inner (q.2 - (q.1 + 1)) (q.1 + 1) _ (by omega) (by omega) (he.up (c := 107) (by decide)) (fun j r hj hr => ?_) (fun j r z hj hr h1 h2 => ?_) ?_ (fun z h1 h2 => absurd h1 (by omega))
        · show (if j = k then 0 else M'.1 107 j) = _
          rw [if_neg (by omega)]
          exact hf j r hj hr
        · exact hp j r z hj hr h1 h2
        · show (if k = k then 0 else M'.1 107 k) = _
          rw [if_pos rfl, hz0]
          rfl
    refine f_run_ok (stop := fun q => Nat.beq q 7) hX 20 _ _ _ _ _ ?_
    exact outer ps.length 0 M0 none (by omega) f_em.rf (fun j q hj => absurd hj (Nat.not_lt_zero j)) (fun j q x hj => absurd hj (Nat.not_lt_zero j))
