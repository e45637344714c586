/-! ===== the reference: arc, lays, hidden ===== -/
theorem f_upLo {f : Nat → Nat → Int64} {c k j : Nat} {w : Int64} (h : j ≠ k) : f_upL f c k w c j = f c j := by
  show (if c = c then (if j = k then w else f c j) else f c j) = _
  rw [if_pos rfl, if_neg h]
theorem f_upLs {f : Nat → Nat → Int64} {c k : Nat} {w : Int64} : f_upL f c k w c k = w := by
  show (if c = c then (if k = k then w else f c k) else f c k) = _
  rw [if_pos rfl, if_pos rfl]
def S_arc : fSp := fun G As M R => match As with
  | [.int zx, .int za, .int zn] => ∃ x a n : Nat, zx = nI x ∧ za = nI a ∧ zn = nI n ∧ 1 ≤ n ∧ n ≤ 10 ∧ x < n ∧ a ≤ 10 ∧ R G (some (.int (nI (f_arc n x a)))) M
  | _ => False
set_option maxRecDepth 20000 in
theorem m_arc : f_Meets 5 kX12_arc S_arc := by
  intro G As M R hsp X hX hW
  match As, hsp with
  | [.int zx, .int za, .int zn], ⟨x, a, n, hzx, hza, hzn, hn1, hn, hx, ha, hsp⟩ =>
    subst hzx; subst hza; subst hzn
    have loop : ∀ (t i : Nat), i + t = a → X G 5 [some (.int (nI x)), some (.int (nI a)), some (.int (nI n)), some (.int (nI (f_arc n x i))), some (.int (nI i))] [] M := by
      intro t
      induction t with
      | zero =>
        intro i hi
        have hi : i = a := by omega
        subst hi
        refine f_run_ok (stop := fun q => false) hX 20 _ _ _ _ _ ?_
        exact And.intro (fun _ => hsp) (fun z => absurd (nI_le (Nat.le_refl _) (by omega)) z)
      | succ t ih =>
        intro i hi
        have q := ih (i + 1) (by omega)
        have hm : (x + i) % n < n := Nat.mod_lt _ (by omega)
        have er : (nI x + nI i) - (nI x + nI i) / nI n * nI n = nI ((x + i) % n) := by
          rw [nI_add]
          exact pk_rem (a := x + i) (d := n) (by omega) (by omega) (by omega)
        have eo : nI (f_arc n x i) ||| (1 : Int32) <<< (((nI x + nI i) - (nI x + nI i) / nI n * nI n) &&& 31) = nI (f_arc n x (i + 1)) := by
          rw [er, n_orbit (by omega)]
          rfl
        rw [nI_succ, ← eo] at q
        refine f_run_ok (stop := fun q => Nat.beq q 5) hX 40 _ _ _ _ _ ?_
        exact And.intro (fun z => absurd ((nI_leI (by omega) (by omega)).mp z) (by omega)) (fun _ => And.intro (fun z => absurd ((nI_eq (b := 0) (by omega) (by omega)).mp z) (by omega)) q)
    refine f_run_ok (stop := fun q => Nat.beq q 5) hX 20 _ _ _ _ _ ?_
    exact loop a 0 (by omega)
def f_L12 (M : fMem) (c : Nat → Nat) : Prop := ∀ T, T < 1024 → M.2 112 T = lN (c T)
def S_ly : fSp := fun G As M R => match As with
  | [.ref 100, .int zn, .int za] => ∃ (n a : Nat) (c : Nat → Nat), G = f_GM ∧ zn = nI n ∧ za = nI a ∧ 1 ≤ n ∧ n ≤ 10 ∧ a ≤ 10 ∧ f_L12 M c ∧ (∀ M', f_em [112, 113] M M' → f_L12 M' (fun T => f_sm n (fun x => f_sm (2 ^ n) (fun s => if s ||| f_arc n x a = T then c s else 0))) → R G none M')
  | _ => False
set_option maxRecDepth 20000 in
theorem m_ly : f_Meets 6 (kX12_lays S_arc) S_ly := by
  intro G As M R hsp X hX hW
  match As, hsp with
  | [.ref 100, .int zn, .int za], ⟨n, a, c, hG, hzn, hza, hn1, hn, ha, hc, hsp⟩ =>
    subst hG; subst hzn; subst hza
    have hp : 2 ^ n ≤ 2 ^ 10 := Nat.pow_le_pow_right (by decide) hn
    have vi : ∀ T, T < 1024 → vp_in (nI T) 1024 ∧ (nI T).toNatClampNeg = T := fun T hT => f_ix rfl hT (by omega)
    generalize hD : (fun T => f_sm n (fun x => f_sm (2 ^ n) (fun s => if s ||| f_arc n x a = T then c s else 0))) = D at hsp
    -- the copy
    have loop3 : ∀ (t j : Nat) (M' : fMem) (u1 u2 : Option Value), j + t = 1024 → f_em [112, 113] M M' → (∀ T, T < 1024 → M'.2 113 T = lN (D T)) → (∀ T, T < j → M'.2 112 T = lN (D T)) → X f_GM 82 [some (.ref 100), some (.int (nI n)), some (.int (nI a)), some (.int (nI j)), u1, u2] [] M' := by
      intro t
      induction t with
      | zero =>
        intro j M' u1 u2 hj he h13 h12
        have hj : j = 1024 := by omega
        subst hj
        refine f_run_ok (stop := fun q => false) hX 20 _ _ _ _ _ ?_
        exact And.intro (fun _ => hsp M' he (fun T hT => h12 T hT)) (fun z => absurd (show (1024 : Int32) ≤ nI 1024 by decide) z)
      | succ t ih =>
        intro j M' u1 u2 hj he h13 h12
        obtain ⟨i1, i2⟩ := vi j (by omega)
        refine f_run_ok (stop := fun q => Nat.beq q 82) hX 40 _ _ _ _ _ ?_
        refine And.intro (fun z => absurd ((nI_leI (a := 1024) (by omega) (by omega)).mp z) (by omega)) (fun _ => And.intro i1 (And.intro i1 ?_))
        show X f_GM 82 [some (.ref 100), some (.int (nI n)), some (.int (nI a)), some (.int (nI j + 1)), u1, u2] [] (M'.1, f_upL M'.2 112 (nI j).toNatClampNeg (M'.2 113 (nI j).toNatClampNeg))
        rw [i2, ← nI_succ]
        refine ih (j + 1) _ u1 u2 (by omega) (he.uL (c := 112) (by decide)) (fun T hT => ?_) (fun T hT => ?_)
        · show f_upL M'.2 112 j (M'.2 113 j) 113 T = _
          rw [f_upL_ne (by decide)]
          exact h13 T hT
        · by_cases e : T = j
          · subst e
            show f_upL M'.2 112 T (M'.2 113 T) 112 T = _
            rw [f_upLs]
            exact h13 T (by omega)
          · exact (f_upLo e).trans (h12 T (by omega))
    -- one arc after another
    have loop2 : ∀ (t x : Nat) (M' : fMem) (u1 u2 : Option Value), x + t = n → f_em [112, 113] M M' → f_L12 M' c → (∀ T, T < 1024 → M'.2 113 T = lN (f_sm x (fun x => f_sm (2 ^ n) (fun s => if s ||| f_arc n x a = T then c s else 0)))) → X f_GM 24 [some (.ref 100), some (.int (nI n)), some (.int (nI a)), some (.int (nI x)), u1, u2] [] M' := by
      intro t
      induction t with
      | zero =>
        intro x M' u1 u2 hx he h12 h13
        have hx : x = n := by omega
        subst hx
        refine f_run_ok (stop := fun q => Nat.beq q 82) hX 20 _ _ _ _ _ ?_
        refine And.intro (fun _ => ?_) (fun z => absurd (nI_le (Nat.le_refl _) (by omega)) z)
        exact loop3 1024 0 M' u1 u2 (by omega) he (fun T hT => by rw [← hD]; exact h13 T hT) (fun T hT => by omega)
      | succ t ih =>
        intro x M' u1 u2 hx he h12 h13
        have harc := f_arc_lt (n := n) (x := x) (by omega) a
        have inner : ∀ (w j : Nat) (M2 : fMem), j + w = 2 ^ n → f_em [112, 113] M M2 → f_L12 M2 c → (∀ T, T < 1024 → M2.2 113 T = lN (f_sm x (fun x => f_sm (2 ^ n) (fun s => if s ||| f_arc n x a = T then c s else 0)) + f_sm j (fun s => if s ||| f_arc n x a = T then c s else 0))) → X f_GM 40 [some (.ref 100), some (.int (nI n)), some (.int (nI a)), some (.int (nI x)), some (.int (nI (f_arc n x a))), some (.int (nI j))] [] M2 := by
          intro w
          induction w with
          | zero =>
            intro j M2 hj he2 k12 k13
            have hj : j = 2 ^ n := by omega
            have q := ih (x + 1) M2 (some (.int (nI (f_arc n x a)))) (some (.int (nI j))) (by omega) he2 k12 (fun T hT => by rw [k13 T hT, hj]; rfl)
            rw [nI_succ] at q
            refine f_run_ok (stop := fun q => Nat.beq q 24) hX 20 _ _ _ _ _ ?_
            refine And.intro (fun _ => q) (fun z => ?_)
            have z : ¬ (1 : Int32) <<< (nI n &&& 31) ≤ nI j := z
            rw [n_shl (by omega), hj] at z
            exact absurd (Int32.le_refl _) z
          | succ w ihw =>
            intro j M2 hj he2 k12 k13
            have hj2 : j < 2 ^ n := by omega
            have hor : j ||| f_arc n x a < 2 ^ n := n_or_lt hj2 harc
            obtain ⟨i1, i2⟩ := vi j (by omega)
            obtain ⟨j1, j2⟩ := f_ix (z := nI j ||| nI (f_arc n x a)) (k := j ||| f_arc n x a) (n := 1024) (fa_or _ _) (by omega) (by omega)
            refine f_run_ok (stop := fun q => Nat.beq q 40) hX 40 _ _ _ _ _ ?_
            refine And.intro (fun z => ?_) (fun _ => And.intro j1 (And.intro i1 (And.intro j1 ?_)))
            · have z : (1 : Int32) <<< (nI n &&& 31) ≤ nI j := z
              rw [n_shl (by omega)] at z
              have := (nI_leI (by omega) (by omega)).mp z
              omega
            show X f_GM 40 [some (.ref 100), some (.int (nI n)), some (.int (nI a)), some (.int (nI x)), some (.int (nI (f_arc n x a))), some (.int (nI j + 1))] [] (M2.1, f_upL M2.2 113 (nI j ||| nI (f_arc n x a)).toNatClampNeg (M2.2 113 (nI j ||| nI (f_arc n x a)).toNatClampNeg + M2.2 112 (nI j).toNatClampNeg))
            rw [i2, j2, ← nI_succ, k12 j (by omega)]
            have hst : ∀ T, f_sm (j + 1) (fun s => if s ||| f_arc n x a = T then c s else 0) = f_sm j (fun s => if s ||| f_arc n x a = T then c s else 0) + (if j ||| f_arc n x a = T then c j else 0) := fun T => rfl
            refine ihw (j + 1) _ (by omega) (he2.uL (c := 113) (by decide)) (fun T hT => ?_) (fun T hT => ?_)
            · show f_upL M2.2 113 (j ||| f_arc n x a) (M2.2 113 (j ||| f_arc n x a) + lN (c j)) 112 T = _
              rw [f_upL_ne (by decide)]
              exact k12 T hT
            · by_cases e : T = j ||| f_arc n x a
              · rw [hst, if_pos e.symm]
                subst e
                show f_upL M2.2 113 (j ||| f_arc n x a) (M2.2 113 (j ||| f_arc n x a) + lN (c j)) 113 (j ||| f_arc n x a) = _
                rw [f_upLs, k13 _ (by omega), lN_add, Nat.add_assoc]
              · rw [hst, if_neg (Ne.symm e), Nat.add_zero]
                exact (f_upLo e).trans (k13 T hT)
        refine f_run_ok (stop := fun q => Nat.beq q 40) hX 30 _ _ _ _ _ ?_
        refine And.intro (fun z => absurd ((nI_leI (by omega) (by omega)).mp z) (by omega)) (fun _ => ?_)
        refine ⟨x, a, n, rfl, rfl, rfl, hn1, hn, by omega, ha, ?_⟩
        exact inner (2 ^ n) 0 M' (by omega) he h12 (fun T hT => by rw [h13 T hT]; rfl)
    -- all at nought
    have loop1 : ∀ (t j : Nat) (M' : fMem), j + t = 1024 → f_em [112, 113] M M' → f_L12 M' c → (∀ T, T < j → M'.2 113 T = 0) → X f_GM 2 [some (.ref 100), some (.int (nI n)), some (.int (nI a)), some (.int (nI j)), none, none] [] M' := by
      intro t
      induction t with
      | zero =>
        intro j M' hj he h12 h13
        have hj : j = 1024 := by omega
        subst hj
        refine f_run_ok (stop := fun q => Nat.beq q 24) hX 20 _ _ _ _ _ ?_
        exact And.intro (fun _ => loop2 n 0 M' none none (by omega) he h12 (fun T hT => h13 T hT)) (fun z => absurd (show (1024 : Int32) ≤ nI 1024 by decide) z)
      | succ t ih =>
        intro j M' hj he h12 h13
        obtain ⟨i1, i2⟩ := vi j (by omega)
        refine f_run_ok (stop := fun q => Nat.beq q 2) hX 40 _ _ _ _ _ ?_
        refine And.intro (fun z => absurd ((nI_leI (a := 1024) (by omega) (by omega)).mp z) (by omega)) (fun _ => And.intro i1 ?_)
        show X f_GM 2 [some (.ref 100), some (.int (nI n)), some (.int (nI a)), some (.int (nI j + 1)), none, none] [] (M'.1, f_upL M'.2 113 (nI j).toNatClampNeg 0)
        rw [i2, ← nI_succ]
        refine ih (j + 1) _ (by omega) (he.uL (c := 113) (by decide)) (fun T hT => ?_) (fun T hT => ?_)
        · show f_upL M'.2 113 j 0 112 T = _
          rw [f_upL_ne (by decide)]
          exact h12 T hT
        · by_cases e : T = j
          · subst e
            show f_upL M'.2 113 T 0 113 T = 0
            exact f_upLs
          · exact (f_upLo e).trans (h13 T (by omega))
    refine f_run_ok (stop := fun q => Nat.beq q 2) hX 20 _ _ _ _ _ ?_
    exact loop1 1024 0 M (by omega) f_em.rf hc (fun T hT => by omega)
set_option maxRecDepth 20000 in
theorem m_y_hidden : f_Meets 8 (kX12_hidden S_in S_ly S_partOf) (f_y4 p_hidden) := by
  intro G As M R hsp X hX hW
  match As, hsp with
  | [.ref 100, .int n, .int a, .int k, .int p], ⟨s, hG, hS, hR, hsp⟩ =>
    subst hG
    unfold p_hidden at hsp
    have bad : (n < 3 ∨ 10 < n ∨ a < 1 ∨ n < a ∨ k < 1 ∨ 6 < k ∨ f_pt1 p = false) → X f_GM 39 [some (.ref 100), some (.int n), some (.int a), some (.int k), some (.int p), none, none, none] [] M := by
      intro h
      rw [if_pos h] at hsp
      exact f_run_ok (stop := fun _ => false) hX 10 _ _ _ _ _ (hsp M hR)
    refine f_run_ok (stop := fun q => Nat.beq q 39 || Nat.beq q 43) hX 60 _ _ _ _ _ ?_
    refine And.intro (fun h => bad ((f_inN h).elim Or.inl (fun z => Or.inr (Or.inl z)))) (fun h => ?_)
    have h := f_inY h
    refine And.intro (fun h2 => bad (Or.inr (Or.inr ((f_inN h2).elim Or.inl (fun z => Or.inr (Or.inl z)))))) (fun h2 => ?_)
    have h2 := f_inY h2
    refine And.intro (fun h3 => bad (Or.inr (Or.inr (Or.inr (Or.inr ((f_inN h3).elim Or.inl (fun z => Or.inr (Or.inl z)))))))) (fun h3 => ?_)
    have h3 := f_inY h3
    refine And.intro (fun hz => ?_) (fun hz => ?_)
    · have hz : f_b (decide (0 ≤ p ∧ p ≤ 1)) = 0 := hz
      rw [← f_ptM] at hz
      exact bad (Or.inr (Or.inr (Or.inr (Or.inr (Or.inr (Or.inr (f_b0.mp hz)))))))
    have hz : ¬ f_b (decide (0 ≤ p ∧ p ≤ 1)) = 0 := hz
    rw [← f_ptM] at hz
    have hp : f_pt1 p = true := f_b_nt hz
    rw [if_neg (by rw [hp]; exact fun z => z.elim (Int32.not_lt.mpr h.1) (fun z => z.elim (Int32.not_lt.mpr h.2) (fun z => z.elim (Int32.not_lt.mpr h2.1) (fun z => z.elim (Int32.not_lt.mpr h2.2) (fun z => z.elim (Int32.not_lt.mpr h3.1) (fun z => z.elim (Int32.not_lt.mpr h3.2) (by decide)))))))] at hsp
    clear bad
    obtain ⟨N, hNb, rfl⟩ := nI_of (x := n) (fun z => Int32.not_lt.mpr h.1 (Int32.lt_trans z (by decide)))
    obtain ⟨A, hAb, rfl⟩ := nI_of (x := a) (fun z => Int32.not_lt.mpr h2.1 (Int32.lt_trans z (by decide)))
    obtain ⟨K, hKb, rfl⟩ := nI_of (x := k) (fun z => Int32.not_lt.mpr h3.1 (Int32.lt_trans z (by decide)))
    have n3 := (nI_leI (a := 3) (by omega) hNb).mp h.1
    have n10 := (nI_leI (b := 10) hNb (by omega)).mp h.2
    have a1 := (nI_leI (a := 1) (by omega) hAb).mp h2.1
    have a2 := (nI_leI hAb hNb).mp h2.2
    have k1 := (nI_leI (a := 1) (by omega) hKb).mp h3.1
    have k6 := (nI_leI (b := 6) hKb (by omega)).mp h3.2
    rw [f_n_nI hNb, f_n_nI hAb, f_n_nI hKb] at hsp
    have hp2 : 2 ^ N ≤ 2 ^ 10 := Nat.pow_le_pow_right (by decide) n10
    have hp3 : 0 < 2 ^ N := Nat.pow_pos (by decide)
    have hpw := f_pow_lt (n := N) (k := K) (by omega) k6
    have loop : ∀ (t j : Nat) (M1 : fMem), j + t = K → f_RM s M1 → f_L12 M1 (f_ck N A j) → X f_GM 83 [some (.ref 100), some (.int (nI N)), some (.int (nI A)), some (.int (nI K)), some (.int p), some (.long (lN (N ^ j))), none, some (.int (nI j))] [] M1 := by
      intro t
      induction t with
      | zero =>
        intro j M1 hj r1 h12
        have hj : j = K := by omega
        subst hj
        have ei : (1 : Int32) <<< (nI N &&& 31) - 1 = nI (2 ^ N - 1) := by rw [n_shl (by omega)]; exact pk_sub (b := 1) (by omega)
        obtain ⟨i1, i2⟩ := f_ix (n := 1024) ei (by omega) (by omega)
        have ec : M1.2 112 ((1 : Int32) <<< (nI N &&& 31) - 1).toNatClampNeg = lN (f_cvg N A j) := by
          rw [i2, h12 _ (by omega), f_ck_cvg (by omega) n10]
        obtain ⟨y1, y2, y3⟩ := f_pof (p := p) (R := R) (u := f_cvg N A j) (v := N ^ j) (f_cvg_lt n10 k6) (Nat.pow_pos (by omega)) (by omega) (hsp M1 r1)
        rw [← ec] at y1 y3
        refine f_run_ok (stop := fun q => false) hX 40 _ _ _ _ _ ?_
        exact And.intro (fun _ => And.intro i1 ⟨y1, y2, y3⟩) (fun z => absurd (nI_le (Nat.le_refl _) (by omega)) z)
      | succ t ih =>
        intro j M1 hj r1 h12
        refine f_run_ok (stop := fun q => Nat.beq q 95) hX 40 _ _ _ _ _ ?_
        refine And.intro (fun z => absurd ((nI_leI (by omega) (by omega)).mp z) (by omega)) (fun _ => ?_)
        refine ⟨N, A, f_ck N A j, rfl, rfl, rfl, by omega, n10, by omega, h12, fun M2 he2 h22 => ?_⟩
        have q := ih (j + 1) M2 (by omega) (r1.em he2 (by decide)) h22
        have em : lN (N ^ j) * (nI N).toInt64 = lN (N ^ (j + 1)) := by rw [f_wide (by omega), lN_mul, Nat.pow_succ]
        rw [← em, nI_succ] at q
        exact f_run_ok (stop := fun q => Nat.beq q 83) hX 40 _ _ _ _ _ q
    have first : ∀ (t j : Nat) (M1 : fMem), j + t = 1024 → f_RM s M1 → (∀ T, T < j → M1.2 112 T = lN (f_ck N A 0 T)) → X f_GM 46 [some (.ref 100), some (.int (nI N)), some (.int (nI A)), some (.int (nI K)), some (.int p), some (.int (nI j)), none, none] [] M1 := by
      intro t
      induction t with
      | zero =>
        intro j M1 hj r1 h12
        have hj : j = 1024 := by omega
        subst hj
        refine f_run_ok (stop := fun q => Nat.beq q 83) hX 40 _ _ _ _ _ ?_
        exact And.intro (fun _ => loop K 0 M1 (by omega) r1 (fun T hT => h12 T hT)) (fun z => absurd (show (1024 : Int32) ≤ nI 1024 by decide) z)
      | succ t ih =>
        intro j M1 hj r1 h12
        obtain ⟨i1, i2⟩ := f_ix (z := nI j) (n := 1024) rfl (by omega) (by omega)
        have fin : ∀ z : Int64, z = lN (f_ck N A 0 j) → X f_GM 70 [some (.ref 100), some (.int (nI N)), some (.int (nI A)), some (.int (nI K)), some (.int p), some (.int (nI j)), none, none] [.long z, .int (nI j), .ref 112] M1 := by
          intro z hz
          refine f_run_ok (stop := fun q => Nat.beq q 46) hX 40 _ _ _ _ _ ?_
          refine And.intro i1 ?_
          show X f_GM 46 [some (.ref 100), some (.int (nI N)), some (.int (nI A)), some (.int (nI K)), some (.int p), some (.int (nI j + 1)), none, none] [] (M1.1, f_upL M1.2 112 (nI j).toNatClampNeg z)
          rw [i2, ← nI_succ]
          refine ih (j + 1) _ (by omega) (r1.em (f_em.rf.uL (ls := [112]) (c := 112) (k := j) (v := z) (by decide)) (by decide)) (fun T hT => ?_)
          by_cases e : T = j
          · subst e
            show f_upL M1.2 112 T z 112 T = _
            exact f_upLs.trans hz
          · exact (f_upLo e).trans (h12 T (by omega))
        refine f_run_ok (stop := fun q => Nat.beq q 70) hX 40 _ _ _ _ _ ?_
        refine And.intro (fun z => absurd ((nI_leI (a := 1024) (by omega) (by omega)).mp z) (by omega)) (fun _ => ?_)
        refine And.intro (fun z => ?_) (fun z => ?_)
        · have z := (nI_eq (b := 0) (by omega) (by omega)).mp z
          exact fin 1 (by rw [z]; rfl)
        · have z : ¬ j = 0 := fun e => z (by rw [e]; rfl)
          refine fin 0 ?_
          show 0 = lN (if j = 0 then 1 else 0)
          rw [if_neg z]
          rfl
    refine f_run_ok (stop := fun q => Nat.beq q 46) hX 40 _ _ _ _ _ ?_
    exact first 1024 0 M (by omega) hR (fun T hT => by omega)
