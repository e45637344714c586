/-! ===== the reference: ordersOn ===== -/
theorem f_pcs_bit {L br : Nat} : ∀ (n p f : Nat), p + n = L + 1 → f < p → (∀ z, f < z → z < p → br.testBit z = false ∧ z < L) → ∀ q ∈ f_pcs L br n p f, ∀ x, q.1 < x → x < q.2 → br.testBit x = false ∧ x < L := by
  intro n
  induction n with
  | zero => intro p f _ _ _ q hq; simp [f_pcs] at hq
  | succ n ih =>
    intro p f hp hf h q hq x h1 h2
    unfold f_pcs at hq
    by_cases hb : p = L ∨ br.testBit p = true
    · rw [if_pos hb] at hq
      rcases List.mem_cons.mp hq with e | e
      · subst e; exact h x h1 h2
      · exact ih (p + 1) p (by omega) (by omega) (fun z z1 z2 => by omega) q e x h1 h2
    · rw [if_neg hb] at hq
      refine ih (p + 1) f (by omega) (by omega) (fun z z1 z2 => ?_) q hq x h1 h2
      by_cases e : z = p
      · subst e
        refine ⟨?_, ?_⟩
        · cases hq : br.testBit z with
          | false => rfl
          | true => exact absurd (Or.inr hq) hb
        · by_cases e2 : z = L
          · exact absurd (Or.inl e2) hb
          · omega
      · exact h z z1 (by omega)
theorem f_may_new {rs : List fRl} {L kd v : Nat} {row : Nat → Nat} {br x : Nat} (h : (f_may rs L kd v row br).testBit x = true) : br.testBit x = false ∧ 1 ≤ x ∧ x < L := by
  obtain ⟨q, hq, h1, h2⟩ := f_may_mem h
  have := f_pcs_bit (L := L) (br := br) L 1 0 (by omega) (by omega) (fun z z1 z2 => by omega) q hq x h1 h2
  exact ⟨this.1, (f_may_bit h).1, this.2⟩
theorem f_pc_add {S x : Nat} (hx : x < 17) (h : S.testBit x = false) : f_pc (S ||| 2 ^ x) = f_pc S + 1 := by
  have := f_cnt_one (P := fun z => (S ||| 2 ^ x).testBit z) (Q := fun z => S.testBit z) (k := x) (fun z hz => by
    show (S ||| 2 ^ x).testBit z = S.testBit z
    rw [Nat.testBit_or, Nat.testBit_two_pow]; simp [Ne.symm hz]) (by show (S ||| 2 ^ x).testBit x = true; rw [Nat.testBit_or, Nat.testBit_two_pow]; simp) h 17
  rw [if_pos hx] at this
  exact this
theorem f_pc_sub {S W x : Nat} (hx : x < 17) (hs : S.testBit x = false) (hw : W.testBit x = true) (h : ∀ i, S.testBit i = true → W.testBit i = true) : f_pc S + 1 ≤ f_pc W := by
  rw [← f_pc_add hx hs]
  refine f_cnt_mono (fun i hi => ?_) 17
  rw [Nat.testBit_or, Nat.testBit_two_pow, Bool.or_eq_true, decide_eq_true_eq] at hi
  rcases hi with hi | hi
  · exact h i hi
  · subst hi; exact hw
def f_OOL : List Nat := [103, 104, 105, 106, 107, 108, 1011, 1012, 1017, 1021, 1033]
def S_oo (d : Nat) : fSp := fun G As M R => match As with
  | [.ref 100, .int zb, .int zS, .int zk, .long zw] => ∃ (y : fYd) (b kd v : Nat) (row : Nat → Nat) (W S w k F A : Nat), G = f_GM ∧ f_MB M y b kd v row ∧ y.2.1 ≤ 3 ∧ zb = nI b ∧ zS = nI S ∧ zk = nI k ∧ zw = lN w ∧ k + d = 3 ∧ S < 2 ^ y.1 ∧ S.testBit 0 = false ∧ f_pc S = k ∧ (∀ i, S.testBit i = true → W.testBit i = true) ∧ W < 2 ^ 17 ∧ f_pc W ≤ y.2.1 ∧ M.1 100 32 = nI W ∧ M.1 100 33 = nI F ∧ M.2 100 21 = lN A ∧ (∀ M', f_em f_OOL M M' → M'.1 100 33 = nI (F + (f_oo (f_may y.2.2 y.1 kd v row) W y.2.1 d S w k).1) → M'.2 100 21 = lN (A + (f_oo (f_may y.2.2 y.1 kd v row) W y.2.1 d S w k).2) → R G none M')
  | _ => False
theorem f_oo_end {may : Nat → Nat} {W c d S q k : Nat} (h : S = W ∧ (k = c ∨ may S = 0)) : f_oo may W c d S q k = (1, f_rsw c 3 k q) := by
  cases d <;> (unfold f_oo; rw [if_pos h])
theorem f_oo_stop {may : Nat → Nat} {W c d S q k : Nat} (h : ¬ (S = W ∧ (k = c ∨ may S = 0))) (h2 : d = 0 ∨ S = W ∨ may S = 0) : f_oo may W c d S q k = (0, 0) := by
  cases d with
  | zero => unfold f_oo; rw [if_neg h]
  | succ d => unfold f_oo; rw [if_neg h, if_pos (by omega)]
theorem f_acc_none {P : Nat → Bool} {g : Nat → Nat × Nat} : ∀ n, (∀ x, 1 ≤ x → x < n → P x = false) → f_acc P g n = (0, 0) := by
  intro n
  induction n with
  | zero => intro _; rfl
  | succ n ih =>
    intro h
    unfold f_acc
    rw [if_neg (fun z => by
      rw [Bool.and_eq_true, decide_eq_true_eq] at z
      rw [h n z.1 (by omega)] at z
      cases z.2)]
    exact ih (fun x h1 h2 => h x h1 (by omega))
set_option maxRecDepth 20000 in
theorem m_oo (d : Nat) (sp : fSp) (hs : ∀ e, d = e + 1 → sp = S_oo e) : f_Meets 11 (kX12_ordersOn S_cu S_my S_pO S_cnt sp) (S_oo d) := by
  intro G As M R hsp X hX hW
  match As, hsp with
  | [.ref 100, .int zb, .int zS, .int zk, .long zw], ⟨y, b, kd, v, row, W, S, w, k, F, A, hG, hMB, hc3, hzb, hzS, hzk, hzw, hkd, hS, hS0, hpcS, hSW, hW17, hpcW, h32, h33, h21, hsp⟩ =>
    subst hG; subst hzb; subst hzS; subst hzk; subst hzw
    have h17 := hMB.2.2.2.2.1
    have hb := hMB.2.2.2.2.2.1
    have hS17 : S < 2 ^ 17 := Nat.lt_of_lt_of_le hS (Nat.pow_le_pow_right (by decide) h17)
    have hml : ∀ T, f_may y.2.2 y.1 kd v row T < 2 ^ 17 := fun T => f_may_lt h17
    have hmn : ∀ T x, (f_may y.2.2 y.1 kd v row T).testBit x = true → T.testBit x = false ∧ 1 ≤ x ∧ x < y.1 := fun T x => f_may_new
    have hH := hMB.1
    have done : ∀ (M' : fMem) (z : Int32) (q : Int64), f_em f_OOL M M' → M'.1 100 33 = nI F → M'.2 100 21 = lN A → (f_oo (f_may y.2.2 y.1 kd v row) W y.2.1 d S w k) = (1, f_rsw y.2.1 3 k w) → z = nI (F + 1) → q = lN (A + f_rsw y.2.1 3 k w) → R f_GM none (f_up M'.1 100 33 z, f_upL M'.2 100 21 q) := by
      intro M' z q he g1 g2 e1 e2 e3
      refine hsp _ ((he.uf (k := 33) (by decide)).ufL (k := 21) (by decide)) ?_ ?_
      · show z = _; rw [e1, e2]
      · show q = _; rw [e1, e3]
    have step2 : ¬ (S = W ∧ k = y.2.1) → X f_GM 38 [some (.ref 100), some (.int (nI b)), some (.int (nI S)), some (.int (nI k)), some (.long (lN w)), none, none, none, none, none, none] [] M := by
      intro hne
      refine f_run_ok (stop := fun q => Nat.beq q 44) hX 20 _ _ _ _ _ ?_
      refine ⟨y, b, S, kd, v, row, rfl, hMB, rfl, rfl, hS, hS0, fun M1 he1 _ => ?_⟩
      have he1' : f_em f_OOL M M1 := he1.mono (by decide)
      have g32 : M1.1 100 32 = nI W := (he1.2.2.1 32 (by decide)).trans h32
      have g33 : M1.1 100 33 = nI F := (he1.2.2.1 33 (by decide)).trans h33
      have g21 : M1.2 100 21 = lN A := (he1.2.2.2 21 (by decide)).trans h21
      have e101 : M1.1 101 = M.1 101 := he1.1 101 (by decide) (by decide)
      have hH1 := hH.cg e101
      have hMB1 := hMB.cg e101
      have hmS := hml S
      have hnS := hmn S
      show X f_GM 44 [some (.ref 100), some (.int (nI b)), some (.int (nI S)), some (.int (nI k)), some (.long (lN w)), none, none, none, none, none, none] [.int (nI (f_may y.2.2 y.1 kd v row S))] M1
      have hp17 : f_pc (f_may y.2.2 y.1 kd v row S) ≤ 17 := f_cnt_le _ 17
      have hp0 : f_may y.2.2 y.1 kd v row S ≠ 0 → 0 < f_pc (f_may y.2.2 y.1 kd v row S) := fun h => by
        have := f_pc_low (Nat.pos_of_ne_zero h) hmS; omega
      -- nothing more can be broken
      have left : S = W → f_may y.2.2 y.1 kd v row S = 0 → X f_GM 59 [some (.ref 100), some (.int (nI b)), some (.int (nI S)), some (.int (nI k)), some (.long (lN w)), none, some (.int (nI (f_may y.2.2 y.1 kd v row S))), none, none, none, none] [] M1 := by
        intro hSe hm0
        have hres := f_oo_end (may := f_may y.2.2 y.1 kd v row) (d := d) (q := w) (k := k) (c := y.2.1) (W := W) ⟨hSe, Or.inr hm0⟩
        have loop : ∀ (n j u : Nat), f_rsw y.2.1 n j u = f_rsw y.2.1 3 k w → y.2.1 ≤ j + n → j ≤ 3 → X f_GM 66 [some (.ref 100), some (.int (nI b)), some (.int (nI S)), some (.int (nI k)), some (.long (lN w)), none, some (.int (nI (f_may y.2.2 y.1 kd v row S))), some (.long (lN u)), none, some (.int (nI j)), none] [] M1 := by
          intro n
          induction n with
          | zero =>
            intro j u he hj hj3
            refine f_run_ok (stop := fun q => false) hX 40 _ _ _ _ _ ?_
            refine ⟨y, rfl, hH1, And.intro (fun _ => ?_) (fun z => absurd (nI_le (by omega) (by omega)) z)⟩
            have he : u = f_rsw y.2.1 3 k w := he
            exact done M1 _ _ he1' g33 g21 hres (by rw [nI_succ]; show M1.1 100 33 + 1 = _; rw [g33]) (by show M1.2 100 21 + lN u = _; rw [g21, lN_add, he])
          | succ n ih =>
            intro j u he hj hj3
            have he : (if j < y.2.1 then f_rsw y.2.1 n (j + 1) (u * f_pO j) else u) = f_rsw y.2.1 3 k w := he
            by_cases hjc : j < y.2.1
            · rw [if_pos hjc] at he
              have q := ih (j + 1) (u * f_pO j) he (by omega) (by omega)
              rw [nI_succ j, ← lN_mul] at q
              refine f_run_ok (stop := fun q => Nat.beq q 66) hX 40 _ _ _ _ _ ?_
              refine ⟨y, rfl, hH1, And.intro (fun z => absurd ((nI_leI (by omega) (by omega)).mp z) (by omega)) (fun _ => ?_)⟩
              exact ⟨j, rfl, by omega, q⟩
            · rw [if_neg hjc] at he
              refine f_run_ok (stop := fun q => false) hX 40 _ _ _ _ _ ?_
              refine ⟨y, rfl, hH1, And.intro (fun _ => ?_) (fun z => absurd (nI_le (by omega) (by omega)) z)⟩
              exact done M1 _ _ he1' g33 g21 hres (by rw [nI_succ]; show M1.1 100 33 + 1 = _; rw [g33]) (by show M1.2 100 21 + lN u = _; rw [g21, lN_add, he])
        refine f_run_ok (stop := fun q => Nat.beq q 66) hX 40 _ _ _ _ _ ?_
        exact loop 3 k w rfl (by omega) (by omega)
      -- on with each notch
      have go : ¬ (S = W ∧ f_may y.2.2 y.1 kd v row S = 0) → X f_GM 113 [some (.ref 100), some (.int (nI b)), some (.int (nI S)), some (.int (nI k)), some (.long (lN w)), none, some (.int (nI (f_may y.2.2 y.1 kd v row S))), none, none, none, none] [] M1 := by
        intro hno
        have hne' : ¬ (S = W ∧ (k = y.2.1 ∨ f_may y.2.2 y.1 kd v row S = 0)) := fun z => z.2.elim (fun e => hne ⟨z.1, e⟩) (fun e => hno ⟨z.1, e⟩)
        generalize hmay : f_may y.2.2 y.1 kd v row = may at *
        have hset : nI (may S) &&& nI W &&& (nI S ^^^ (-1)) = nI (f_bits 17 (fun x => (may S &&& W).testBit x && !S.testBit x)) := by
          rw [fa_and]
          exact n_andnot (Nat.lt_of_le_of_lt Nat.and_le_left hmS) (by omega)
        have htest : ∀ x, x < 17 → (f_bits 17 (fun x => (may S &&& W).testBit x && !S.testBit x)).testBit x = ((may S &&& W).testBit x && !S.testBit x) := fun x hx => by
          rw [f_bits_test, decide_eq_true hx, Bool.true_and]
        have hsb := f_bits_lt (fun x => (may S &&& W).testBit x && !S.testBit x) 17
        generalize hP : (fun x => (may S &&& W).testBit x && !S.testBit x) = P at *
        have hPx : ∀ x, P x = ((may S &&& W).testBit x && !S.testBit x) := fun x => by rw [← hP]
        generalize f_bits 17 P = T at *
        -- the weight of each
        have each : ∀ (u : Nat) (g : Nat → Nat × Nat), (∀ x, P x = true → ∃ e, d = e + 1 ∧ g x = f_oo may W y.2.1 e (S ||| 2 ^ x) u (k + 1)) → f_oo may W y.2.1 d S w k = f_acc P g 17 → X f_GM 149 [some (.ref 100), some (.int (nI b)), some (.int (nI S)), some (.int (nI k)), some (.long (lN w)), none, some (.int (nI (may S))), some (.int (nI T)), none, none, none] [.long (lN u)] M1 := by
          intro u g hg hres
          rw [hres] at hsp
          have loop : ∀ (t j : Nat) (M2 : fMem), j + t = 17 → 1 ≤ j → f_em f_OOL M M2 → M2.1 100 33 = nI (F + (f_acc P g j).1) → M2.2 100 21 = lN (A + (f_acc P g j).2) → X f_GM 154 [some (.ref 100), some (.int (nI b)), some (.int (nI S)), some (.int (nI k)), some (.long (lN w)), none, some (.int (nI (may S))), some (.int (nI T)), some (.long (lN u)), none, some (.int (nI j))] [] M2 := by
            intro t
            induction t with
            | zero =>
              intro j M2 hj hj1 he2 k33 k21
              have hj : j = 17 := by omega
              subst hj
              refine f_run_ok (stop := fun q => false) hX 20 _ _ _ _ _ ?_
              exact And.intro (fun _ => hsp M2 he2 k33 k21) (fun z => absurd (show (17 : Int32) ≤ nI 17 by decide) z)
            | succ t ih =>
              intro j M2 hj hj1 he2 k33 k21
              have eb := n_sb (n := T) (k := j) (by omega) (by omega)
              rw [htest j (by omega)] at eb
              have hst : f_acc P g (j + 1) = if (decide (1 ≤ j) && P j) = true then ((f_acc P g j).1 + (g j).1, (f_acc P g j).2 + (g j).2) else f_acc P g j := rfl
              rw [decide_eq_true hj1, Bool.true_and] at hst
              have e2 : M2.1 101 = M.1 101 := he2.1 101 (by decide) (by decide)
              refine f_run_ok (stop := fun q => Nat.beq q 154) hX 60 _ _ _ _ _ ?_
              refine And.intro (fun z => absurd ((nI_leI (a := 17) (by omega) (by omega)).mp z) (by omega)) (fun _ => ?_)
              refine And.intro (fun z => ?_) (fun z => ?_)
              · have z : nI T >>> (nI j &&& 31) &&& 1 = 1 := z
                rw [eb] at z
                have z := f_b1.mp z
                rw [← hPx] at z
                obtain ⟨e, hde, hge⟩ := hg j z
                have hsp' := hs e hde
                subst hsp'
                rw [if_pos z] at hst
                have z2 := z
                rw [hPx, Bool.and_eq_true, Nat.testBit_and, Bool.and_eq_true] at z2
                obtain ⟨⟨zm, zw⟩, zs⟩ := z2
                have zs : S.testBit j = false := by simpa using zs
                obtain ⟨_, j1, jL⟩ := hnS j zm
                have hq := hS
                refine ⟨y, b, kd, v, row, W, S ||| 2 ^ j, u, k + 1, F + (f_acc P g j).1, A + (f_acc P g j).2, rfl, hMB.cg e2, hc3, rfl, n_orbit (by omega), (nI_succ k).symm, rfl, by omega, n_or_lt hS (Nat.pow_lt_pow_right (by decide) jL), ?_, by rw [f_pc_add (by omega) zs, hpcS], fun i hi => ?_, hW17, hpcW, (he2.2.2.1 32 (by decide)).trans h32, k33, k21, fun M3 he3 m33 m21 => ?_⟩
                · rw [Nat.testBit_or, hS0, Nat.testBit_two_pow]; simp; omega
                · rw [Nat.testBit_or, Nat.testBit_two_pow, Bool.or_eq_true, decide_eq_true_eq] at hi
                  rcases hi with hi | hi
                  · exact hSW i hi
                  · subst hi; exact zw
                · rw [hmay, ← hge] at m33 m21
                  have q := ih (j + 1) M3 (by omega) (by omega) (he2.tr he3) (by rw [m33, hst, Nat.add_assoc]) (by rw [m21, hst, Nat.add_assoc])
                  rw [nI_succ j] at q
                  exact q
              · have z : ¬ nI T >>> (nI j &&& 31) &&& 1 = 1 := z
                rw [eb] at z
                have z : ¬ P j = true := fun e => z (by rw [← hPx, e]; rfl)
                rw [if_neg z] at hst
                have q := ih (j + 1) M2 (by omega) (by omega) he2 (by rw [hst]; exact k33) (by rw [hst]; exact k21)
                rw [nI_succ j] at q
                exact q
          refine f_run_ok (stop := fun q => Nat.beq q 154) hX 20 _ _ _ _ _ ?_
          exact loop 16 1 M1 rfl (Nat.le_refl 1) he1' g33 g21
        -- no notch is left at the third break
        have hd0 : ∀ x, P x = true → 1 ≤ d := fun x hx => by
          rw [hPx, Bool.and_eq_true, Nat.testBit_and, Bool.and_eq_true] at hx
          obtain ⟨⟨zm, zw⟩, zs⟩ := hx
          have zs : S.testBit x = false := by simpa using zs
          obtain ⟨_, _, jL⟩ := hnS x zm
          have := f_pc_sub (x := x) (by omega) zs zw hSW
          omega
        have hstop : (S = W ∨ may S = 0 ∨ d = 0) → ∀ x, P x = false := fun h x => by
          cases hx : P x with
          | false => rfl
          | true =>
            have h1 := hd0 x hx
            rw [hPx, Bool.and_eq_true, Nat.testBit_and, Bool.and_eq_true] at hx
            obtain ⟨⟨zm, zw⟩, zs⟩ := hx
            have zs : S.testBit x = false := by simpa using zs
            rcases h with h | h | h
            · rw [← h, zs] at zw; cases zw
            · rw [h, Nat.zero_testBit] at zm; cases zm
            · omega
        refine f_run_ok (stop := fun q => Nat.beq q 126) hX 40 _ _ _ _ _ ?_
        show X f_GM 126 [some (.ref 100), some (.int (nI b)), some (.int (nI S)), some (.int (nI k)), some (.long (lN w)), none, some (.int (nI (may S))), some (.int (nI (may S) &&& M1.1 100 32 &&& (nI S ^^^ (-1)))), none, none, none] [] M1
        rw [g32, hset]
        refine f_run_ok (stop := fun q => Nat.beq q 149) hX 40 _ _ _ _ _ ?_
        refine And.intro (fun z => ?_) (fun z => ?_)
        · have z := (nI_eq (b := 0) (by omega) (by omega)).mp z
          refine each 0 (fun _ => (0, 0)) (fun x hx => ?_) ?_
          · rw [hstop (Or.inr (Or.inl z)) x] at hx; cases hx
          · rw [f_oo_stop hne' (Or.inr (Or.inr z)), f_acc_none 17 (fun x _ _ => hstop (Or.inr (Or.inl z)) x)]
        · have z : ¬ may S = 0 := fun e => z (by rw [e]; rfl)
          have hpp := hp0 z
          have ew : (nI (f_pc (may S))).toInt64 = lN (f_pc (may S)) := f_wide (by omega)
          have hpOb : f_pO k < 2 ^ 63 := by unfold f_pO; split <;> omega
          have ediv : lN (f_pO k) / (nI (f_pc (may S))).toInt64 = lN (f_pO k / f_pc (may S)) := by rw [ew, pk_lDiv hpOb hpp (by omega)]
          have emul : lN w * (lN (f_pO k) / (nI (f_pc (may S))).toInt64) = lN (w * (f_pO k / f_pc (may S))) := by rw [ediv, lN_mul]
          refine ⟨k, rfl, by omega, may S, rfl, hmS, ?_⟩
          refine And.intro (fun e => ?_) ?_
          · rw [ew] at e
            have := (pk_lEQ (b := 0) (by omega) (by omega)).mp e
            omega
          · show X f_GM 149 [some (.ref 100), some (.int (nI b)), some (.int (nI S)), some (.int (nI k)), some (.long (lN w)), none, some (.int (nI (may S))), some (.int (nI T)), none, none, none] [.long (lN w * (lN (f_pO k) / (nI (f_pc (may S))).toInt64))] M1
            rw [emul]
            refine each (w * (f_pO k / f_pc (may S))) (fun x => f_oo may W y.2.1 (d - 1) (S ||| 2 ^ x) (w * (f_pO k / f_pc (may S))) (k + 1)) (fun x hx => ⟨d - 1, by have := hd0 x hx; omega, rfl⟩) ?_
            by_cases hst : S = W ∨ d = 0
            · rw [f_oo_stop hne' (hst.elim (fun e => Or.inr (Or.inl e)) Or.inl), f_acc_none 17 (fun x _ _ => hstop (hst.elim Or.inl (fun e => Or.inr (Or.inr e))) x)]
            · obtain ⟨e, rfl⟩ : ∃ e, d = e + 1 := ⟨d - 1, by omega⟩
              show f_oo may W y.2.1 (e + 1) S w k = _
              have hun : f_oo may W y.2.1 (e + 1) S w k = if S = W ∧ (k = y.2.1 ∨ may S = 0) then (1, f_rsw y.2.1 3 k w) else if S = W ∨ may S = 0 then (0, 0) else f_acc (fun x => (may S &&& W).testBit x && !S.testBit x) (fun x => f_oo may W y.2.1 e (S ||| 2 ^ x) (w * (f_pO k / f_pc (may S))) (k + 1)) 17 := rfl
              rw [hun, if_neg hne', if_neg (fun q => q.elim (fun q => hst (Or.inl q)) z), ← hP]
              rfl
      refine f_run_ok (stop := fun q => Nat.beq q 59 || Nat.beq q 113) hX 40 _ _ _ _ _ ?_
      refine And.intro (fun z => ?_) (fun z => ?_)
      · have z : nI S = M1.1 100 32 := z
        rw [g32] at z
        have z := (nI_eq (by omega) (by omega)).mp z
        refine And.intro (fun z2 => ?_) (fun z2 => ?_)
        · exact left z ((nI_eq (b := 0) (by omega) (by omega)).mp z2)
        · exact go (fun e => z2 (by rw [e.2]; rfl))
      · have z : ¬ nI S = M1.1 100 32 := z
        rw [g32] at z
        exact go (fun e => z (by rw [e.1]))
    refine f_run_ok (stop := fun q => Nat.beq q 16 || Nat.beq q 38) hX 40 _ _ _ _ _ ?_
    refine And.intro (fun z => ?_) (fun z => ?_)
    · have z : nI S = M.1 100 32 := z
      rw [h32] at z
      have z := (nI_eq (by omega) (by omega)).mp z
      refine ⟨y, rfl, hH, And.intro (fun z2 => ?_) (fun z2 => ?_)⟩
      · have z2 := (nI_eq (by omega) (by omega)).mp z2
        have hres := f_oo_end (may := f_may y.2.2 y.1 kd v row) (d := d) (q := w) (k := k) (c := y.2.1) (W := W) ⟨z, Or.inl z2⟩
        have hr : f_rsw y.2.1 3 k w = w := by
          show (if k < y.2.1 then _ else w) = w
          rw [if_neg (by omega)]
        refine f_run_ok (stop := fun q => false) hX 40 _ _ _ _ _ ?_
        exact done M _ _ f_em.rf h33 h21 hres (by rw [nI_succ]; show M.1 100 33 + 1 = _; rw [h33]) (by show M.2 100 21 + lN w = _; rw [h21, lN_add, hr])
      · exact step2 (fun e => z2 (by rw [e.2]))
    · have z : ¬ nI S = M.1 100 32 := z
      rw [h32] at z
      exact step2 (fun e => z (by rw [e.1]))
