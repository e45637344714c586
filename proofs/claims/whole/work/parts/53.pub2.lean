/-! ===== public methods: breaker to whole ===== -/
def f_cr (S : Nat) : Nat → Nat → Nat
  | 0, _ => 0
  | n + 1, j => (if S.testBit j = true then 1 else 0) + f_cr S n (j + 1)
theorem f_cr_cnt (S : Nat) : ∀ n j, f_cnt (j + n) (fun x => S.testBit x) = f_cnt j (fun x => S.testBit x) + f_cr S n j := by
  intro n
  induction n with
  | zero => intro j; rfl
  | succ n ih =>
    intro j
    rw [show j + (n + 1) = (j + 1) + n by omega, ih (j + 1)]
    show f_cnt j _ + (if S.testBit j = true then 1 else 0) + _ = f_cnt j _ + ((if S.testBit j = true then 1 else 0) + f_cr S n (j + 1))
    omega
theorem f_cr_pc (S : Nat) : f_cr S 17 0 = f_pc S := by
  have := f_cr_cnt S 17 0
  rw [Nat.zero_add] at this
  unfold f_pc
  rw [this]
  exact (Nat.zero_add _).symm
theorem f_nth_ok (S : Nat) : ∀ n j r, r < f_cr S n j → S.testBit (f_nth S n j r) = true ∧ j ≤ f_nth S n j r ∧ f_nth S n j r < j + n := by
  intro n
  induction n with
  | zero => intro j r h; exact absurd h (Nat.not_lt_zero _)
  | succ n ih =>
    intro j r h
    have h : r < (if S.testBit j = true then 1 else 0) + f_cr S n (j + 1) := h
    unfold f_nth
    by_cases hb : S.testBit j = true
    · rw [if_pos hb] at h
      rw [if_pos hb]
      by_cases h0 : r = 0
      · rw [if_pos h0]; exact ⟨hb, Nat.le_refl _, by omega⟩
      · rw [if_neg h0]
        obtain ⟨a, b, c⟩ := ih (j + 1) (r - 1) (by omega)
        exact ⟨a, by omega, by omega⟩
    · rw [if_neg hb] at h
      rw [if_neg hb]
      obtain ⟨a, b, c⟩ := ih (j + 1) r (by omega)
      exact ⟨a, by omega, by omega⟩
theorem f_nth_pc {S r : Nat} (h : r < f_pc S) : S.testBit (f_nth S 17 0 r) = true ∧ f_nth S 17 0 r < 17 := by
  have := f_nth_ok S 17 0 r (by rw [f_cr_pc]; exact h)
  exact ⟨this.1, by omega⟩
theorem f_plc_in {S : Nat} (hS : S < 2 ^ 17) : ∀ n j m r, j + n ≤ 17 → m ≤ 20 → r < f_cr S n j → f_plc (nI S) (nI (m + r)) n j m = nI (f_nth S n j r) := by
  intro n
  induction n with
  | zero => intro j m r _ _ h; exact absurd h (Nat.not_lt_zero _)
  | succ n ih =>
    have hle : ∀ n j, f_cr S n j ≤ n := by
      intro n
      induction n with
      | zero => intro j; exact Nat.le_refl _
      | succ n ih => intro j; have := ih (j + 1); show (if S.testBit j = true then 1 else 0) + f_cr S n (j + 1) ≤ n + 1; split <;> omega
    intro j m r hj hm h
    have h : r < (if S.testBit j = true then 1 else 0) + f_cr S n (j + 1) := h
    have hl := hle n (j + 1)
    unfold f_plc f_nth
    rw [n_bit (by omega) (by omega)]
    by_cases hb : S.testBit j = true
    · rw [if_pos hb] at h
      rw [if_pos hb, if_pos hb]
      by_cases h0 : r = 0
      · rw [if_pos (by rw [h0]; rfl), if_pos h0]
      · rw [if_neg (fun z => h0 (by have := (nI_eq (by omega) (by omega)).mp z; omega)), if_neg h0, show m + r = m + 1 + (r - 1) by omega]
        by_cases hm20 : m + 1 ≤ 20
        · exact ih (j + 1) (m + 1) (r - 1) (by omega) hm20 (by omega)
        · have : ∀ n j m r, j + n ≤ 17 → m ≤ 100 - n → r < f_cr S n j → f_plc (nI S) (nI (m + r)) n j m = nI (f_nth S n j r) := by
            intro n
            induction n with
            | zero => intro j m r _ _ h; exact absurd h (Nat.not_lt_zero _)
            | succ n ih =>
              intro j m r hj hm h
              have h : r < (if S.testBit j = true then 1 else 0) + f_cr S n (j + 1) := h
              have hl := hle n (j + 1)
              unfold f_plc f_nth
              rw [n_bit (by omega) (by omega)]
              by_cases hb : S.testBit j = true
              · rw [if_pos hb] at h
                rw [if_pos hb, if_pos hb]
                by_cases h0 : r = 0
                · rw [if_pos (by rw [h0]; rfl), if_pos h0]
                · rw [if_neg (fun z => h0 (by have := (nI_eq (by omega) (by omega)).mp z; omega)), if_neg h0, show m + r = m + 1 + (r - 1) by omega]
                  exact ih (j + 1) (m + 1) (r - 1) (by omega) (by omega) (by omega)
              · rw [if_neg hb] at h
                rw [if_neg hb, if_neg hb]
                exact ih (j + 1) m r (by omega) (by omega) (by omega)
          exact this n (j + 1) (m + 1) (r - 1) (by omega) (by omega) (by omega)
    · rw [if_neg hb] at h
      rw [if_neg hb, if_neg hb]
      exact ih (j + 1) m r (by omega) hm (by omega)
theorem f_plc_out {S : Nat} (hS : S < 2 ^ 17) {z : Int32} : ∀ n j m, j + n ≤ 17 → (∀ r, r < f_cr S n j → z ≠ nI (m + r)) → f_plc (nI S) z n j m = -1 := by
  intro n
  induction n with
  | zero => intro j m _ _; rfl
  | succ n ih =>
    intro j m hj h
    have h : ∀ r, r < (if S.testBit j = true then 1 else 0) + f_cr S n (j + 1) → z ≠ nI (m + r) := h
    unfold f_plc
    rw [n_bit (by omega) (by omega)]
    by_cases hb : S.testBit j = true
    · rw [if_pos hb] at h ⊢
      rw [if_neg (fun q => h 0 (by omega) q.symm)]
      exact ih (j + 1) (m + 1) (by omega) (fun r hr => by rw [show m + 1 + r = m + (1 + r) by omega]; exact h (1 + r) (by omega))
    · rw [if_neg hb] at h ⊢
      exact ih (j + 1) m (by omega) (fun r hr => h r (by omega))
theorem f_plc_eq {S : Nat} (hS : S < 2 ^ 17) (z : Int32) : f_plc (nI S) z 17 0 0 = f_place S z := by
  have hp : f_pc S ≤ 17 := f_cnt_le _ 17
  unfold f_place
  by_cases h : 0 ≤ z ∧ z < nI (f_pc S)
  · rw [if_pos h]
    have h1 := f_nlt h.1 h.2 (by omega)
    have := f_plc_in hS 17 0 0 (f_n z) (by omega) (by omega) (by rw [f_cr_pc]; exact h1)
    rw [Nat.zero_add, f_nn h.1] at this
    exact this
  · rw [if_neg h]
    refine f_plc_out hS 17 0 0 (by omega) (fun r hr e => h ?_)
    rw [f_cr_pc] at hr
    rw [e, Nat.zero_add]
    exact ⟨nI_pos' (by omega), nI_lt hr (by omega)⟩
set_option maxRecDepth 20000 in
theorem m_x_breaker : f_Meets 5 (kX11_breaker S_put) (f_x2 p_breaker) := by
  intro G As M R hsp X hX hW
  match As, hsp with
  | [.ref 0, .int k, .int v], ⟨s, hG, hS, hR, hsp⟩ =>
    subst hG
    unfold p_breaker at hsp
    have hnb := hS.nb
    have bad1 : (k < 0 ∨ 7 ≤ k) → X f_GX 10 [some (.ref 0), some (.int k), some (.int v), none, none] [] M := by
      intro h
      rw [if_pos h] at hsp
      exact f_run_ok (stop := fun _ => false) hX 10 _ _ _ _ _ (hsp M hR)
    have bad2 : ¬ (k < 0 ∨ 7 ≤ k) → (v < 0 ∨ 9 < v) → X f_GX 22 [some (.ref 0), some (.int k), some (.int v), none, none] [] M := by
      intro h h2
      rw [if_neg h, if_pos h2] at hsp
      exact f_run_ok (stop := fun _ => false) hX 10 _ _ _ _ _ (hsp M hR)
    refine f_run_ok (stop := fun q => Nat.beq q 10 || Nat.beq q 22 || Nat.beq q 25) hX 30 _ _ _ _ _ ?_
    refine And.intro (fun h => bad1 (Or.inl h)) (fun h => ?_)
    refine And.intro (fun h2 => ?_) (fun h2 => bad1 (Or.inr (Int32.not_lt.mp h2)))
    have hk : ¬ (k < 0 ∨ 7 ≤ k) := fun z => z.elim h (fun z => Int32.not_lt.mpr z h2)
    refine And.intro (fun h3 => bad2 hk (Or.inl h3)) (fun h3 => ?_)
    refine And.intro (fun h4 => ?_) (fun h4 => bad2 hk (Or.inr (Int32.not_le.mp h4)))
    have hv : ¬ (v < 0 ∨ 9 < v) := fun z => z.elim h3 (fun z => Int32.not_lt.mpr h4 z)
    rw [if_neg hk, if_neg hv] at hsp
    have hk0 : 0 ≤ k := Int32.not_lt.mp h
    have hv0 : 0 ≤ v := Int32.not_lt.mp h3
    refine f_run_ok (stop := fun q => Nat.beq q 40) hX 30 _ _ _ _ _ ?_
    refine And.intro (fun h5 => ?_) (fun h5 => ?_)
    · have h5 : M.1 1 0 < 6 := h5
      rw [hR.nb] at h5
      have h5 := (nI_ltI (b := 6) (by omega) (by omega)).mp h5
      rw [if_neg (by omega)] at hsp
      generalize hnb' : s.1.1 0 0 = nb at *
      refine f_run_ok (stop := fun q => Nat.beq q 48) hX 30 _ _ _ _ _ ?_
      show X f_GX 48 [some (.ref 0), some (.int k), some (.int v), some (.int (M.1 1 0)), none] [] M
      rw [hR.nb, hnb']
      refine f_run_ok (stop := fun q => Nat.beq q 60) hX 30 _ _ _ _ _ ?_
      show X f_GX 60 [some (.ref 0), some (.int k), some (.int v), some (.int (nI nb)), none] [] (f_pt 6 2 (nI nb) k M)
      rw [f_pt_in (n := 6) h5 (by decide)]
      refine f_run_ok (stop := fun q => Nat.beq q 72) hX 30 _ _ _ _ _ ?_
      show X f_GX 72 [some (.ref 0), some (.int k), some (.int v), some (.int (nI nb)), none] [] (f_pt 6 3 (nI nb) v (f_up M.1 2 nb k, M.2))
      rw [f_pt_in (n := 6) h5 (by decide)]
      have r1 := hR.sU (k := 2) (i := nb) (w := nI (f_n k)) (by decide) (by decide) (hR.1.s1 _ _)
      have r2 := r1.sU (k := 3) (i := nb) (w := nI (f_n v)) (by decide) (by decide) (r1.1.s2 _ _)
      rw [f_nn hk0, f_nn hv0] at r2
      have step : ∀ (j : Nat) (M1 : fMem), j < 4 → X f_GX 75 [some (.ref 0), some (.int k), some (.int v), some (.int (nI nb)), some (.int (nI (j + 1)))] [] (f_up M1.1 4 (nb * 4 + j) (nI 0), M1.2) → X f_GX 75 [some (.ref 0), some (.int k), some (.int v), some (.int (nI nb)), some (.int (nI j))] [] M1 := by
        intro j M1 hj hx
        refine f_run_ok (stop := fun q => Nat.beq q 75) hX 30 _ _ _ _ _ ?_
        refine And.intro (fun z => absurd ((nI_leI (a := 4) (by omega) (by omega)).mp z) (by omega)) (fun _ => ?_)
        have e : (nI nb * 4 + nI j : Int32) = nI (nb * 4 + j) := by rw [← nI_add, ← pk_mul]; rfl
        rw [nI_succ] at hx
        rw [← f_pt_in (n := 24) (by omega) (by decide), ← e] at hx
        exact hx
      have r3 := r2.sU (k := 4) (i := nb * 4 + 0) (w := nI 0) (by decide) (by decide) (r2.1.s3 _ _)
      have r4 := r3.sU (k := 4) (i := nb * 4 + 1) (w := nI 0) (by decide) (by decide) (r3.1.s3 _ _)
      have r5 := r4.sU (k := 4) (i := nb * 4 + 2) (w := nI 0) (by decide) (by decide) (r4.1.s3 _ _)
      have r6 := r5.sU (k := 4) (i := nb * 4 + 3) (w := nI 0) (by decide) (by decide) (r5.1.s3 _ _)
      have r7 := r6.sU (k := 1) (i := 0) (w := nI (nb + 1)) (by decide) (by decide) (r6.1.s00 _)
      refine f_run_ok (stop := fun q => Nat.beq q 75) hX 30 _ _ _ _ _ ?_
      refine step 0 _ (by omega) (step 1 _ (by omega) (step 2 _ (by omega) (step 3 _ (by omega) ?_)))
      refine f_run_ok (stop := fun q => false) hX 30 _ _ _ _ _ ?_
      refine And.intro (fun _ => ?_) (fun z => absurd (show (4 : Int32) ≤ nI (3 + 1) by decide) z)
      have e0 : (f_up (f_up (f_up (f_up (f_up (f_up M.1 2 nb k) 3 nb v) 4 (nb * 4 + 0) (nI 0)) 4 (nb * 4 + 1) (nI 0)) 4 (nb * 4 + 2) (nI 0)) 4 (nb * 4 + 3) (nI 0)) 1 0 + 1 = nI (nb + 1) := by
        show M.1 1 0 + 1 = _
        rw [hR.nb, hnb', nI_succ]
      rw [← e0] at r7
      exact hsp _ r7
    · have h5 : ¬ M.1 1 0 < 6 := h5
      rw [hR.nb] at h5
      have h5 : ¬ s.1.1 0 0 < 6 := fun z => h5 (nI_lt (b := 6) z (by omega))
      rw [if_pos (by omega)] at hsp
      exact hsp M hR
theorem f_RX.may {s : fSt} {M : fMem} {b : Int32} {R : fR} (hR : f_RX s M) (hS : f_SW s) (hb : f_ng b s = true) (hk : ∀ M', f_ex f_CS [] M M' → f_RX s M' → R f_GX (some (.int (nI (f_mb s.1 (f_n b) (s.1.1 0 2))))) M') : S_may f_GX [.ref 33, .int b, .int (M.1 1 6)] M R := by
  obtain ⟨b1, b2, b3⟩ := f_ng_t hS hb
  exact ⟨s.1.2.2.2.2, s.1.2.2.1, f_n b, _, _, _, s.1.1 0 2, rfl, b3.symm, hR.br, hS.br, hR.yh hS, hR.bkr hS b2, fun M' he => hk M' he (hR.scr he (by decide))⟩
theorem f_mb_lt {s : fSt} (hS : f_SW s) (b S : Nat) : f_mb s.1 b S < 2 ^ 17 := f_may_lt hS.L17
set_option maxRecDepth 20000 in
theorem m_x_of : f_Meets 4 (kX11_of S_isB S_at S_may S_bitCount S_placeOf) (f_x2 p_of) := by
  intro G As M R hsp X hX hW
  match As, hsp with
  | [.ref 0, .int b, .int w], ⟨s, hG, hS, hR, hsp⟩ =>
    subst hG
    unfold p_of at hsp
    refine f_run_ok (stop := fun q => Nat.beq q 56) hX 40 _ _ _ _ _ ?_
    refine ⟨rfl, ?_⟩
    rw [f_ng_b hR]
    cases hb : f_ng b s with
    | false =>
      rw [if_pos hb] at hsp
      refine And.intro (fun _ => hsp M hR) (fun z => absurd rfl z)
    | true =>
      rw [if_neg (by rw [hb]; decide)] at hsp
      obtain ⟨b1, b2, b3⟩ := f_ng_t hS hb
      refine And.intro (fun z => absurd z (by decide)) (fun _ => ?_)
      refine And.intro (fun h => ?_) (fun h => ?_)
      · rw [if_pos h] at hsp
        refine f_fin (hsp M hR) ?_ rfl
        show _ = some (Value.int (f_at (6, M.1 2) b))
        rw [← b3, f_at_in (t := (6, M.1 2)) b2 (by show 6 < 2 ^ 31; omega), f_n_nI (f_n_lt b)]
        show _ = some (Value.int (M.1 2 (f_n b)))
        rw [hR.kd _ b2]; rfl
      · rw [if_neg h] at hsp
        refine And.intro (fun h2 => ?_) (fun h2 => ?_)
        · rw [if_pos h2] at hsp
          refine f_fin (hsp M hR) ?_ rfl
          show _ = some (Value.int (f_at (6, M.1 3) b))
          rw [← b3, f_at_in (t := (6, M.1 3)) b2 (by show 6 < 2 ^ 31; omega), f_n_nI (f_n_lt b)]
          show _ = some (Value.int (M.1 3 (f_n b)))
          rw [hR.vl _ b2]; rfl
        · rw [if_neg h2] at hsp
          have go : ¬ (w ≠ 2 ∧ w < 10) → X f_GX 56 [some (.ref 0), some (.int b), some (.int w), none] [] M := by
            intro hw
            rw [if_neg hw] at hsp
            refine f_run_ok (stop := fun q => Nat.beq q 71) hX 40 _ _ _ _ _ ?_
            obtain ⟨a1, a2, a3, a4, a5, a6, a7, a8, a9, a10, a11, a12, a13, a14⟩ := hR.may (R := fun G' v M' => X G' 71 [some (.ref 0), some (.int b), some (.int w), none] (f_ans v []) M') hS hb (fun M' he hR' => by
              refine f_run_ok (stop := fun q => false) hX 40 _ _ _ _ _ ?_
              refine And.intro (fun h3 => ?_) (fun h3 => ?_)
              · rw [if_pos h3] at hsp
                exact ⟨_, rfl, f_mb_lt hS _ _, hsp M' hR'⟩
              · rw [if_neg h3] at hsp
                refine f_fin (hsp M' hR') ?_ rfl
                show _ = some (Value.int (f_plc _ (w - 10) 17 0 0))
                rw [f_plc_eq (f_mb_lt hS _ _)]; rfl)
            exact ⟨a1, a2, a3, a4, a5, a6, a7, a8, a9, a10, a11, a12, a13, a14⟩
          refine And.intro (fun h3 => ?_) (fun h3 => ?_)
          · have h3 : w = 2 := h3
            exact go (fun z => z.1 h3)
          · refine And.intro (fun h4 => ?_) (fun h4 => ?_)
            · exact go (fun z => absurd h4 (Int32.not_le.mpr z.2))
            · have hw : w ≠ 2 ∧ w < 10 := ⟨h3, Int32.not_le.mp h4⟩
              rw [if_pos hw] at hsp
              exact hsp M hR
set_option maxRecDepth 20000 in
theorem m_x_row : f_Meets 5 (kX11_row S_isB S_at S_put) (f_x3 p_row) := by
  intro G As M R hsp X hX hW
  match As, hsp with
  | [.ref 0, .int b, .int k, .int n], ⟨s, hG, hS, hR, hsp⟩ =>
    subst hG
    unfold p_row at hsp
    have bad1 : (f_ng b s = false ∨ k < 0 ∨ 4 ≤ k) → X f_GX 17 [some (.ref 0), some (.int b), some (.int k), some (.int n), none] [] M := by
      intro h
      rw [if_pos h] at hsp
      exact f_run_ok (stop := fun _ => false) hX 10 _ _ _ _ _ (hsp M hR)
    have bad2 : ¬ (f_ng b s = false ∨ k < 0 ∨ 4 ≤ k) → (n < 0 ∨ 9 < n) → X f_GX 29 [some (.ref 0), some (.int b), some (.int k), some (.int n), none] [] M := by
      intro h h2
      rw [if_neg h, if_pos h2] at hsp
      exact f_run_ok (stop := fun _ => false) hX 10 _ _ _ _ _ (hsp M hR)
    refine f_run_ok (stop := fun q => Nat.beq q 17 || Nat.beq q 29 || Nat.beq q 32) hX 40 _ _ _ _ _ ?_
    refine ⟨rfl, ?_⟩
    rw [f_ng_b hR]
    cases hb : f_ng b s with
    | false => exact And.intro (fun _ => bad1 (Or.inl hb)) (fun z => absurd rfl z)
    | true =>
      obtain ⟨b1, b2, b3⟩ := f_ng_t hS hb
      refine And.intro (fun z => absurd z (by decide)) (fun _ => ?_)
      refine And.intro (fun h => bad1 (Or.inr (Or.inl h))) (fun h => ?_)
      refine And.intro (fun h2 => ?_) (fun h2 => bad1 (Or.inr (Or.inr (Int32.not_lt.mp h2))))
      have h1 : ¬ (f_ng b s = false ∨ k < 0 ∨ 4 ≤ k) := fun z => z.elim (fun z => by rw [hb] at z; exact absurd z (by decide)) (fun z => z.elim h (fun z => Int32.not_lt.mpr z h2))
      refine And.intro (fun h3 => bad2 h1 (Or.inl h3)) (fun h3 => ?_)
      refine And.intro (fun h4 => ?_) (fun h4 => bad2 h1 (Or.inr (Int32.not_le.mp h4)))
      have hn : ¬ (n < 0 ∨ 9 < n) := fun z => z.elim h3 (fun z => Int32.not_lt.mpr h4 z)
      rw [if_neg h1, if_neg hn] at hsp
      have hk0 : 0 ≤ k := Int32.not_lt.mp h
      have hk4 := f_nlt (k := 4) hk0 h2 (by omega)
      have hn0 : 0 ≤ n := Int32.not_lt.mp h3
      have ekd : f_at (6, M.1 2) b = nI (s.1.1 1 (f_n b)) := by
        rw [← b3, f_at_in (t := (6, M.1 2)) b2 (by show 6 < 2 ^ 31; omega), f_n_nI (f_n_lt b)]
        exact hR.kd _ b2
      have eix : b * 4 + k = nI (f_n b * 4 + f_n k) := by
        rw [← nI_add, ← pk_mul, f_nn hk0, b3]; rfl
      have erw : f_at (24, M.1 4) (b * 4 + k) = nI (s.1.1 3 (f_n b * 4 + f_n k)) := by
        rw [eix, f_at_in (t := (24, M.1 4)) (by show f_n b * 4 + f_n k < 24; omega) (by show 24 < 2 ^ 31; omega)]
        exact hR.rw _ (by omega)
      have hkd7 := hS.kd (f_n b)
      refine f_run_ok (stop := fun q => Nat.beq q 51) hX 40 _ _ _ _ _ ?_
      refine And.intro (fun h5 => ?_) (fun h5 => ?_)
      · have h5 : f_at (6, M.1 2) b = 6 := h5
        rw [ekd] at h5
        have h5 := (nI_eq (b := 6) (by omega) (by omega)).mp h5
        rw [if_neg (fun z => z h5)] at hsp
        refine f_run_ok (stop := fun q => false) hX 40 _ _ _ _ _ ?_
        have r1 := hR.sU (k := 4) (i := f_n b * 4 + f_n k) (w := nI (f_n n)) (by decide) (by decide) (hR.1.s3 _ _)
        rw [f_nn hn0, ← f_pt_in (n := 24) (by omega) (by decide), ← eix] at r1
        refine f_fin (hsp _ r1) ?_ rfl
        show _ = some (Value.int (f_at (24, M.1 4) (b * 4 + k)))
        rw [erw]; rfl
      · have h5 : ¬ f_at (6, M.1 2) b = 6 := h5
        rw [ekd] at h5
        have h5 : s.1.1 1 (f_n b) ≠ 6 := fun z => h5 (by rw [z]; rfl)
        rw [if_pos h5] at hsp
        exact hsp M hR
set_option maxRecDepth 20000 in
theorem m_x_told : f_Meets 2 (kX11_told S_bitCount) (f_x1 p_told) := by
  intro G As M R hsp X hX hW
  match As, hsp with
  | [.ref 0, .int w], ⟨s, hG, hS, hR, hsp⟩ =>
    subst hG
    unfold p_told at hsp
    refine f_run_ok (stop := fun q => false) hX 40 _ _ _ _ _ ?_
    refine And.intro (fun h => ?_) (fun h => And.intro (fun h2 => ?_) (fun h2 => And.intro (fun h3 => ?_) (fun h3 => And.intro (fun h4 => ?_) (fun h4 => ?_))))
    · rw [if_pos h] at hsp
      exact f_fin (hsp M hR) (congrArg (fun z => some (Value.int z)) hR.ln.symm) rfl
    · rw [if_neg h, if_pos h2] at hsp
      exact f_fin (hsp M hR) (congrArg (fun z => some (Value.int z)) hR.ct.symm) rfl
    · rw [if_neg h, if_neg h2, if_pos h3] at hsp
      exact ⟨s.1.1 0 2, hR.br, hS.br, f_fin (hsp M hR) (congrArg (fun z => some (Value.int z)) (nI_succ _)) rfl⟩
    · rw [if_neg h, if_neg h2, if_neg h3, if_pos h4] at hsp
      exact f_fin (hsp M hR) (congrArg (fun z => some (Value.int z)) hR.sp.symm) rfl
    · rw [if_neg h, if_neg h2, if_neg h3, if_neg h4] at hsp
      exact hsp M hR
set_option maxRecDepth 20000 in
theorem m_x_whole : f_Meets 2 (kX11_whole S_bitCount) (f_x0 p_whole) := by
  intro G As M R hsp X hX hW
  match As, hsp with
  | [.ref 0], ⟨s, hG, hS, hR, hsp⟩ =>
    subst hG
    refine f_run_ok (stop := fun q => false) hX 40 _ _ _ _ _ ?_
    refine ⟨s.1.1 0 2, hR.br, hS.br, ?_⟩
    have r1 := hR.sU (k := 1) (i := 6) (w := nI 0) (by decide) (by decide) (hR.1.s02 _)
    have r2 := r1.sU (k := 1) (i := 7) (w := 0) (by decide) (by decide) (r1.1.ssp _)
    exact f_fin (hsp _ r2) (congrArg (fun z => some (Value.int z)) (nI_succ _)) rfl
