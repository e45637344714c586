/-! ===== the reference: paysOn, costs ===== -/
theorem f_cnt_sm (P : Nat → Bool) : ∀ n, f_cnt n P = f_sm n (fun x => if P x = true then 1 else 0) := by
  intro n
  induction n with
  | zero => rfl
  | succ n ih => show f_cnt n P + _ = f_sm n _ + _; rw [ih]
theorem f_pc_sum {H N I : Nat} : f_pc (H &&& (N &&& I)) = f_sm 17 (fun x => if N.testBit x = true then f_pc (H &&& (2 ^ x &&& I)) else 0) := by
  unfold f_pc
  rw [f_cnt_sm]
  refine f_sm_cg 17 (fun x hx => ?_)
  show (if (H &&& (N &&& I)).testBit x = true then 1 else 0) = if N.testBit x = true then f_cnt 17 (fun y => (H &&& (2 ^ x &&& I)).testBit y) else 0
  rw [Nat.testBit_and, Nat.testBit_and]
  by_cases hN : N.testBit x = true
  · rw [if_pos hN, hN, Bool.true_and, Nat.and_comm (2 ^ x), f_and_bit]
    by_cases hI : I.testBit x = true
    · rw [if_pos hI, f_and_bit, hI, Bool.and_true]
      by_cases hH : H.testBit x = true
      · rw [if_pos hH, if_pos hH]
        exact (f_pc_pow hx).symm
      · rw [if_neg hH, if_neg hH]
        exact f_pc_0.symm
    · rw [if_neg hI, if_neg (by cases H.testBit x <;> simpa using hI), Nat.and_zero]
      exact f_pc_0.symm
  · rw [if_neg hN, Bool.eq_false_iff.mpr hN, Bool.false_and, Bool.and_false, if_neg (by decide)]
theorem f_sum_sm {α : Type} (g : α → Nat → Nat) (N n : Nat) : ∀ l : List α, (l.map (fun q => f_sm n (fun x => if N.testBit x = true then g q x else 0))).sum = f_sm n (fun x => if N.testBit x = true then (l.map (fun q => g q x)).sum else 0) := by
  intro l
  induction l with
  | nil =>
    show 0 = _
    refine (f_sm_z n (fun x _ => ?_)).symm
    show (if N.testBit x = true then 0 else 0) = 0
    split <;> rfl
  | cons q l ih =>
    rw [List.map_cons, List.sum_cons, ih, ← f_sm_add]
    refine f_sm_cg n (fun x _ => ?_)
    show (if N.testBit x = true then g q x else 0) + (if N.testBit x = true then (l.map (fun q => g q x)).sum else 0) = if N.testBit x = true then ((q :: l).map (fun q => g q x)).sum else 0
    split
    · rw [List.map_cons, List.sum_cons]
    · rfl
theorem f_price_sum (rs : List fRl) (L kd br N : Nat) : f_price rs L kd br N = f_sm 17 (fun x => if N.testBit x = true then f_price rs L kd br (2 ^ x) else 0) := by
  unfold f_price
  rw [← f_sum_sm (fun (q : Nat × Nat) x => f_prc rs q.1 q.2 (f_pc br) kd (2 ^ x))]
  refine congrArg List.sum (List.map_congr_left (fun q _ => ?_))
  show f_prc rs q.1 q.2 (f_pc br) kd N = _
  unfold f_prc f_prs
  rw [← f_sum_sm (fun (r : fRl) x => f_prt r q.1 q.2 (f_pc br) kd (2 ^ x &&& f_inb q.1 q.2))]
  refine congrArg List.sum (List.map_congr_left (fun r _ => ?_))
  show f_prt r q.1 q.2 (f_pc br) kd (N &&& f_inb q.1 q.2) = _
  unfold f_prt
  by_cases h : r.1 = true
  · simp only [if_pos h]
    rw [f_pc_sum, ← f_sm_ifm]
  · simp only [if_neg h]
    refine (f_sm_z 17 (fun x _ => ?_)).symm
    show (if _ then 0 else 0) = 0
    split <;> rfl
def f_ew1 : Nat → Nat → Nat → Nat := fun k q n => if k = 0 then 1 else q * (360360 / n)
def f_ndp (rs : List fRl) (L kd : Nat) (may : Nat → Nat) (S : Nat) : Nat := f_sm 17 (fun x => if (decide (1 ≤ x) && (may S).testBit x) = true then f_price rs L kd S (2 ^ x) else 0)
theorem f_ndp_eq {rs : List fRl} {L kd : Nat} {may : Nat → Nat} (hnew : ∀ T x, (may T).testBit x = true → T.testBit x = false ∧ 1 ≤ x) (S : Nat) : f_ndp rs L kd may S = f_price rs L kd S (may S) := by
  rw [f_price_sum]
  refine f_sm_cg 17 (fun x _ => ?_)
  show (if (decide (1 ≤ x) && (may S).testBit x) = true then f_price rs L kd S (2 ^ x) else 0) = if (may S).testBit x = true then f_price rs L kd S (2 ^ x) else 0
  by_cases h : (may S).testBit x = true
  · rw [if_pos h, if_pos (by rw [h, decide_eq_true (hnew S x h).2]; rfl)]
  · rw [if_neg h, if_neg (fun z => h (by rw [Bool.and_eq_true] at z; exact z.2))]
def f_PYL : List Nat := [103, 104, 105, 106, 107, 108, 1011, 1012, 1017, 1021, 1022]
def S_py (d : Nat) : fSp := fun G As M R => match As with
  | [.ref 100, .int zb, .int zS, .int zk, .long zw] => ∃ (y : fYd) (b kd v : Nat) (row : Nat → Nat) (S w k A Q : Nat), G = f_GM ∧ f_MB M y b kd v row ∧ y.2.1 ≤ 3 ∧ zb = nI b ∧ zS = nI S ∧ zk = nI k ∧ zw = lN w ∧ k + d = 3 ∧ k ≤ y.2.1 ∧ S < 2 ^ y.1 ∧ S.testBit 0 = false ∧ M.2 100 21 = lN A ∧ M.2 100 22 = lN Q ∧ (∀ M', f_em f_PYL M M' → M'.2 100 21 = lN (A + f_gn f_ew1 (f_may y.2.2 y.1 kd v row) y.2.1 (fun _ => 0) (f_ndp y.2.2 y.1 kd (f_may y.2.2 y.1 kd v row)) d S w k) → M'.2 100 22 = lN (if k = 0 ∧ y.2.1 ≠ 0 ∧ f_may y.2.2 y.1 kd v row S ≠ 0 then f_pc (f_may y.2.2 y.1 kd v row S) else Q) → R G none M')
  | _ => False
set_option maxRecDepth 20000 in
theorem m_py (d : Nat) (sp : fSp) (hs : ∀ e, d = e + 1 → sp = S_py e) : f_Meets 13 (kX12_paysOn S_cu S_my S_cnt sp) (S_py d) := by
  intro G As M R hsp X hX hW
  match As, hsp with
  | [.ref 100, .int zb, .int zS, .int zk, .long zw], ⟨y, b, kd, v, row, S, w, k, A, Q, hG, hMB, hc3, hzb, hzS, hzk, hzw, hkd, hkc, hS, hS0, h21, h22, hsp⟩ =>
    subst hG; subst hzb; subst hzS; subst hzk; subst hzw
    have hrok := hMB.2.1
    have hrl := hMB.2.2.1
    have h1L := hMB.2.2.2.1
    have h17 := hMB.2.2.2.2.1
    have hb := hMB.2.2.2.2.2.1
    have hS17 : S < 2 ^ 17 := Nat.lt_of_lt_of_le hS (Nat.pow_le_pow_right (by decide) h17)
    have hml : ∀ T, f_may y.2.2 y.1 kd v row T < 2 ^ 17 := fun T => f_may_lt h17
    have hmn : ∀ T x, (f_may y.2.2 y.1 kd v row T).testBit x = true → T.testBit x = false ∧ 1 ≤ x ∧ x < y.1 := fun T x => f_may_new
    have hH := hMB.1
    -- nothing to pay
    have nought : ∀ (M1 : fMem), f_em f_LFL M M1 → (d = 0 ∨ k = y.2.1 ∨ f_may y.2.2 y.1 kd v row S = 0) → ¬ (k = 0 ∧ y.2.1 ≠ 0 ∧ f_may y.2.2 y.1 kd v row S ≠ 0) → X f_GM 18 [some (.ref 100), some (.int (nI b)), some (.int (nI S)), some (.int (nI k)), some (.long (lN w)), none, none, none, none, none, none, none, none] [.int (nI 0)] M1 := by
      intro M1 he1 hend hno
      refine f_run_ok (stop := fun q => false) hX 20 _ _ _ _ _ ?_
      refine And.intro (fun _ => ?_) (fun z => absurd rfl z)
      refine hsp M1 (he1.mono (by decide)) ?_ ?_
      · rw [f_gn_at hend, Nat.mul_zero]
        exact (he1.2.2.2 21 (by decide)).trans h21
      · rw [if_neg hno]
        exact (he1.2.2.2 22 (by decide)).trans h22
    have step2 : ¬ k = y.2.1 → X f_GM 12 [some (.ref 100), some (.int (nI b)), some (.int (nI S)), some (.int (nI k)), some (.long (lN w)), none, none, none, none, none, none, none, none] [] M := by
      intro hne
      obtain ⟨e, rfl⟩ : ∃ e, d = e + 1 := ⟨d - 1, by omega⟩
      have hsp' := hs e rfl
      subst hsp'
      refine f_run_ok (stop := fun q => Nat.beq q 18) hX 20 _ _ _ _ _ ?_
      refine ⟨y, b, S, kd, v, row, rfl, hMB, rfl, rfl, hS, hS0, fun M1 he1 hpd => ?_⟩
      have e101 : M1.1 101 = M.1 101 := he1.1 101 (by decide) (by decide)
      have hH1 := hH.cg e101
      have hmS := hml S
      have hnS := hmn S
      by_cases hm0 : f_may y.2.2 y.1 kd v row S = 0
      · have q := nought M1 he1 (Or.inr (Or.inr hm0)) (fun z => z.2.2 hm0)
        rw [← hm0] at q
        exact q
      show X f_GM 18 [some (.ref 100), some (.int (nI b)), some (.int (nI S)), some (.int (nI k)), some (.long (lN w)), none, none, none, none, none, none, none, none] [.int (nI (f_may y.2.2 y.1 kd v row S))] M1
      clear nought
      have hp17 : f_pc (f_may y.2.2 y.1 kd v row S) ≤ 17 := f_cnt_le _ 17
      have hpl : ∀ x, f_price y.2.2 y.1 kd S (2 ^ x) < 2 ^ 31 := fun x => f_price_lt h17 hrl (fun q hq => (hrok q hq).1)
      generalize hmay : f_may y.2.2 y.1 kd v row = may at *
      have hpp : 0 < f_pc (may S) := by
        have := f_pc_low (Nat.pos_of_ne_zero hm0) hmS; omega
      have ew : (nI (f_pc (may S))).toInt64 = lN (f_pc (may S)) := f_wide (by omega)
      rw [f_gn_on (fun q => q.elim hne hm0)] at hsp
      have hnd : f_ndp y.2.2 y.1 kd may S = f_sm 17 (fun x => if (decide (1 ≤ x) && (may S).testBit x) = true then f_price y.2.2 y.1 kd S (2 ^ x) else 0) := rfl
      rw [hnd] at hsp
      generalize hu : f_ew1 k w (f_pc (may S)) = u at *
      generalize hF : (fun x => if (decide (1 ≤ x) && (may S).testBit x) = true then f_gn f_ew1 may y.2.1 (fun _ => 0) (f_ndp y.2.2 y.1 kd may) e (S ||| 2 ^ x) u (k + 1) else 0) = F at *
      have hFx : ∀ x, F x = if (decide (1 ≤ x) && (may S).testBit x) = true then f_gn f_ew1 may y.2.1 (fun _ => 0) (f_ndp y.2.2 y.1 kd may) e (S ||| 2 ^ x) u (k + 1) else 0 := fun x => by rw [← hF]
      generalize hD : (fun x => if (decide (1 ≤ x) && (may S).testBit x) = true then f_price y.2.2 y.1 kd S (2 ^ x) else 0) = D at *
      have hDx : ∀ x, D x = if (decide (1 ≤ x) && (may S).testBit x) = true then f_price y.2.2 y.1 kd S (2 ^ x) else 0 := fun x => by rw [← hD]
      obtain ⟨Q', hQ'⟩ : ∃ Q', (if k = 0 ∧ y.2.1 ≠ 0 ∧ may S ≠ 0 then f_pc (may S) else Q) = Q' := ⟨_, rfl⟩
      rw [hQ'] at hsp
      -- on with each
      have loop2 : ∀ (t j r : Nat) (M2 : fMem), j + t = 17 → 1 ≤ j → f_em f_PYL M M2 → M2.2 100 21 = lN (A + u * 360360 ^ (y.2.1 - 1 - k) * f_sm 17 D + f_sm j F) → M2.2 100 22 = lN Q' → X f_GM 167 [some (.ref 100), some (.int (nI b)), some (.int (nI S)), some (.int (nI k)), some (.long (lN w)), none, some (.int (nI (may S))), some (.int (nI (f_pc (may S)))), some (.long (lN r)), none, some (.long (lN u)), none, some (.int (nI j))] [] M2 := by
        intro t
        induction t with
        | zero =>
          intro j r M2 hj hj1 he2 k21 k22
          have hj : j = 17 := by omega
          subst hj
          refine f_run_ok (stop := fun q => false) hX 20 _ _ _ _ _ ?_
          exact And.intro (fun _ => hsp M2 he2 (by rw [k21, Nat.add_assoc]) k22) (fun z => absurd (show (17 : Int32) ≤ nI 17 by decide) z)
        | succ t ih =>
          intro j r M2 hj hj1 he2 k21 k22
          have eb := n_sb (n := may S) (k := j) (by omega) (by omega)
          have hst : f_sm (j + 1) F = f_sm j F + F j := rfl
          have hFj := hFx j
          rw [decide_eq_true hj1, Bool.true_and] at hFj
          have e2 : M2.1 101 = M.1 101 := he2.1 101 (by decide) (by decide)
          refine f_run_ok (stop := fun q => Nat.beq q 167) hX 60 _ _ _ _ _ ?_
          refine And.intro (fun z => absurd ((nI_leI (a := 17) (by omega) (by omega)).mp z) (by omega)) (fun _ => ?_)
          refine And.intro (fun z => ?_) (fun z => ?_)
          · have z : nI (may S) >>> (nI j &&& 31) &&& 1 = 1 := z
            rw [eb] at z
            have z := f_b1.mp z
            rw [if_pos z] at hFj
            obtain ⟨zs, j1, jL⟩ := hnS j z
            refine ⟨y, b, kd, v, row, S ||| 2 ^ j, u, k + 1, A + u * 360360 ^ (y.2.1 - 1 - k) * f_sm 17 D + f_sm j F, Q', rfl, hMB.cg e2, hc3, rfl, n_orbit (by omega), (nI_succ k).symm, rfl, by omega, by omega, n_or_lt hS (Nat.pow_lt_pow_right (by decide) jL), ?_, k21, k22, fun M3 he3 m21 m22 => ?_⟩
            · rw [Nat.testBit_or, hS0, Nat.testBit_two_pow]; simp; omega
            · rw [hmay, ← hFj] at m21
              rw [if_neg (by omega)] at m22
              have q := ih (j + 1) r M3 (by omega) (by omega) (he2.tr he3) (by rw [m21, hst]; simp only [Nat.add_assoc]) m22
              rw [nI_succ j] at q
              exact q
          · have z : ¬ nI (may S) >>> (nI j &&& 31) &&& 1 = 1 := z
            rw [eb] at z
            have z : ¬ (may S).testBit j = true := fun e => z (by rw [e]; rfl)
            rw [if_neg z] at hFj
            have q := ih (j + 1) r M2 (by omega) (by omega) he2 (by rw [hst, hFj]; exact k21) k22
            rw [nI_succ j] at q
            exact q
      -- what is paid here
      have loop1 : ∀ (t j : Nat) (M2 : fMem), j + t = 17 → 1 ≤ j → f_em [1021, 1022] M1 M2 → M2.2 100 21 = lN (A + u * 360360 ^ (y.2.1 - 1 - k) * f_sm j D) → M2.2 100 22 = lN Q' → X f_GM 113 [some (.ref 100), some (.int (nI b)), some (.int (nI S)), some (.int (nI k)), some (.long (lN w)), none, some (.int (nI (may S))), some (.int (nI (f_pc (may S)))), some (.long (lN (360360 ^ (y.2.1 - 1 - k)))), none, some (.long (lN u)), none, some (.int (nI j))] [] M2 := by
        intro t
        induction t with
        | zero =>
          intro j M2 hj hj1 he2 k21 k22
          have hj : j = 17 := by omega
          subst hj
          refine f_run_ok (stop := fun q => Nat.beq q 167) hX 20 _ _ _ _ _ ?_
          refine And.intro (fun _ => ?_) (fun z => absurd (show (17 : Int32) ≤ nI 17 by decide) z)
          have h0 : f_sm 1 F = 0 := by
            show 0 + F 0 = 0
            rw [hFx 0]
            rfl
          exact loop2 16 1 _ M2 rfl (Nat.le_refl 1) ((he1.mono (by decide)).tr (he2.mono (by decide))) (by rw [h0]; exact k21) k22
        | succ t ih =>
          intro j M2 hj hj1 he2 k21 k22
          have eb := n_sb (n := may S) (k := j) (by omega) (by omega)
          have hst : f_sm (j + 1) D = f_sm j D + D j := rfl
          have hDj := hDx j
          rw [decide_eq_true hj1, Bool.true_and] at hDj
          obtain ⟨x1, x2⟩ := f_ix (z := nI j) (n := 17) rfl (by omega) (by omega)
          have fin : ∀ z : Int64, z = lN (u * 360360 ^ (y.2.1 - 1 - k) * D j) → X f_GM 154 [some (.ref 100), some (.int (nI b)), some (.int (nI S)), some (.int (nI k)), some (.long (lN w)), none, some (.int (nI (may S))), some (.int (nI (f_pc (may S)))), some (.long (lN (360360 ^ (y.2.1 - 1 - k)))), none, some (.long (lN u)), none, some (.int (nI j))] [.long z, .long (M2.2 100 21), .ref 100] M2 := by
            intro z hz
            refine f_run_ok (stop := fun q => Nat.beq q 113) hX 20 _ _ _ _ _ ?_
            have q := ih (j + 1) (M2.1, f_upL M2.2 100 21 (M2.2 100 21 + z)) (by omega) (by omega) (he2.ufL (by decide)) (by show M2.2 100 21 + z = _; rw [k21, hz, lN_add, hst, Nat.mul_add, Nat.add_assoc]) ((f_em.rf.ufL (ls := [1021]) (M := M2) (M' := M2) (k := 21) (v := M2.2 100 21 + z) (by decide)).2.2.2 22 (by decide) |>.trans k22)
            rw [nI_succ j] at q
            exact q
          refine f_run_ok (stop := fun q => Nat.beq q 154) hX 60 _ _ _ _ _ ?_
          refine And.intro (fun z => absurd ((nI_leI (a := 17) (by omega) (by omega)).mp z) (by omega)) (fun _ => ?_)
          refine And.intro (fun z => ?_) (fun z => ?_)
          · have z : nI (may S) >>> (nI j &&& 31) &&& 1 = 1 := z
            rw [eb] at z
            have z := f_b1.mp z
            rw [if_pos z] at hDj
            have hpj : M2.1 108 j = nI (f_price y.2.2 y.1 kd S (2 ^ j)) := by rw [he2.1 108 (by decide) (by decide)]; exact hpd j z
            refine And.intro x1 (fin (lN u * lN (360360 ^ (y.2.1 - 1 - k)) * (M2.1 108 (nI j).toNatClampNeg).toInt64) ?_)
            rw [x2, hpj, f_wide (hpl j), lN_mul, lN_mul, hDj]
          · have z : ¬ nI (may S) >>> (nI j &&& 31) &&& 1 = 1 := z
            rw [eb] at z
            have z : ¬ (may S).testBit j = true := fun e => z (by rw [e]; rfl)
            rw [if_neg z] at hDj
            exact fin 0 (by rw [hDj]; rfl)
      -- the weight of each
      have each : ∀ (M2 : fMem) (o : Option Value), f_em [1021, 1022] M1 M2 → M2.2 100 21 = lN A → M2.2 100 22 = lN Q' → X f_GM 90 [some (.ref 100), some (.int (nI b)), some (.int (nI S)), some (.int (nI k)), some (.long (lN w)), none, some (.int (nI (may S))), some (.int (nI (f_pc (may S)))), some (.long (lN (360360 ^ (y.2.1 - 1 - k)))), none, o, none, none] [] M2 := by
        intro M2 o he2 k21 k22
        have h0 : f_sm 1 D = 0 := by
          show 0 + D 0 = 0
          rw [hDx 0]
          rfl
        have go := loop1 16 1 M2 rfl (Nat.le_refl 1) he2 (by rw [h0, Nat.mul_zero]; exact k21) k22
        refine f_run_ok (stop := fun q => Nat.beq q 113) hX 40 _ _ _ _ _ ?_
        refine And.intro (fun z => ?_) (fun z => ?_)
        · have z := (nI_eq (b := 0) (by omega) (by omega)).mp z
          have eu : u = 1 := by rw [← hu]; exact if_pos z
          rw [eu] at go
          exact go
        · have z : ¬ k = 0 := fun q => z (by rw [q]; rfl)
          have eu : u = w * (360360 / f_pc (may S)) := by rw [← hu]; exact if_neg z
          refine And.intro (fun q => ?_) ?_
          · rw [ew] at q
            have := (pk_lEQ (b := 0) (by omega) (by omega)).mp q
            omega
          have emul : lN w * ((360360 : Int64) / (nI (f_pc (may S))).toInt64) = lN u := by
            rw [ew, show (360360 : Int64) = lN 360360 from rfl, pk_lDiv (by omega) hpp (by omega), lN_mul, eu]
          rw [← emul] at go
          exact go
      have many : ∀ (o : Option Value), X f_GM 72 [some (.ref 100), some (.int (nI b)), some (.int (nI S)), some (.int (nI k)), some (.long (lN w)), none, some (.int (nI (may S))), some (.int (nI (f_pc (may S)))), some (.long (lN (360360 ^ (y.2.1 - 1 - k)))), none, o, none, none] [] M1 := by
        intro o
        have k21 : M1.2 100 21 = lN A := (he1.2.2.2 21 (by decide)).trans h21
        have k22 : M1.2 100 22 = lN Q := (he1.2.2.2 22 (by decide)).trans h22
        have fin : ∀ z : Int64, z = lN Q' → X f_GM 90 [some (.ref 100), some (.int (nI b)), some (.int (nI S)), some (.int (nI k)), some (.long (lN w)), none, some (.int (nI (may S))), some (.int (nI (f_pc (may S)))), some (.long (lN (360360 ^ (y.2.1 - 1 - k)))), none, o, none, none] [] (M1.1, f_upL M1.2 100 22 z) := fun z hz => each _ o (f_em.rf.ufL (by decide)) ((f_em.rf.ufL (ls := [1022]) (M := M1) (M' := M1) (k := 22) (v := z) (by decide)).2.2.2 21 (by decide) |>.trans k21) hz
        refine f_run_ok (stop := fun q => Nat.beq q 90) hX 40 _ _ _ _ _ ?_
        refine And.intro (fun z => ?_) (fun z => ?_)
        · have z := (nI_eq (b := 0) (by omega) (by omega)).mp z
          refine fin (nI (f_pc (may S))).toInt64 ?_
          rw [ew, ← hQ', if_pos ⟨z, by omega, hm0⟩]
        · have z : ¬ k = 0 := fun q => z (by rw [q]; rfl)
          refine fin (M1.2 100 22) ?_
          rw [k22, ← hQ', if_neg (fun q => z q.1)]
      have rest : ∀ (t j r : Nat), j + t = y.2.1 → k + 1 ≤ j → r = 360360 ^ (j - (k + 1)) → X f_GM 49 [some (.ref 100), some (.int (nI b)), some (.int (nI S)), some (.int (nI k)), some (.long (lN w)), none, some (.int (nI (may S))), some (.int (nI (f_pc (may S)))), some (.long (lN r)), none, some (.int (nI j)), none, none] [] M1 := by
        intro t
        induction t with
        | zero =>
          intro j r hj hj1 hr
          have er : r = 360360 ^ (y.2.1 - 1 - k) := by rw [hr, show j - (k + 1) = y.2.1 - 1 - k by omega]
          rw [er]
          refine f_run_ok (stop := fun q => Nat.beq q 72) hX 40 _ _ _ _ _ ?_
          exact ⟨y, rfl, hH1, And.intro (fun _ => many _) (fun z => absurd (nI_le (by omega) (by omega)) z)⟩
        | succ t ih =>
          intro j r hj hj1 hr
          have q := ih (j + 1) (r * 360360) (by omega) (by omega) (by rw [hr, ← Nat.pow_succ, show j + 1 - (k + 1) = (j - (k + 1)).succ by omega])
          rw [nI_succ j, ← lN_mul] at q
          refine f_run_ok (stop := fun q => Nat.beq q 49) hX 40 _ _ _ _ _ ?_
          exact ⟨y, rfl, hH1, And.intro (fun z => absurd ((nI_leI (by omega) (by omega)).mp z) (by omega)) (fun _ => q)⟩
      refine f_run_ok (stop := fun q => Nat.beq q 49) hX 40 _ _ _ _ _ ?_
      refine And.intro (fun z => absurd ((nI_eq (b := 0) (by omega) (by omega)).mp z) hm0) (fun _ => ?_)
      refine ⟨may S, rfl, hmS, ?_⟩
      refine And.intro (fun z => ?_) (fun z => ?_)
      · have z := (nI_eq (b := 0) (by omega) (by omega)).mp z
        have q := rest (y.2.1 - 1) 1 1 (by omega) (by omega) (by rw [show 1 - (k + 1) = 0 by omega])
        exact q
      · have q := rest (y.2.1 - (k + 1)) (k + 1) 1 (by omega) (Nat.le_refl _) (by rw [Nat.sub_self])
        rw [nI_succ k] at q
        exact q
    refine f_run_ok (stop := fun q => Nat.beq q 18 || Nat.beq q 12) hX 40 _ _ _ _ _ ?_
    refine ⟨y, rfl, hH, And.intro (fun z => ?_) (fun z => ?_)⟩
    · have z := (nI_eq (by omega) (by omega)).mp z
      exact nought M f_em.rf (Or.inr (Or.inl z)) (fun q => by omega)
    · exact step2 (fun e => z (by rw [e]))
