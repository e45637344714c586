/-! ===== the reference: breaker, row, told, whole, book, looked, count, trace, as, image, undo ===== -/
set_option maxRecDepth 20000 in
theorem m_y_breaker : f_Meets 5 (kX12_breaker S_in) (f_y2 p_breaker) := by
  intro G As M R hsp X hX hW
  match As, hsp with
  | [.ref 100, .int k, .int v], ⟨s, hG, hS, hR, hsp⟩ =>
    subst hG
    unfold p_breaker at hsp
    have hnb := hS.nb
    refine f_run_ok (stop := fun q => Nat.beq q 12) hX 40 _ _ _ _ _ ?_
    refine And.intro (fun h => ?_) (fun h => ?_)
    · have h : f_b (decide (0 ≤ k ∧ k ≤ 6)) = 0 := h
      rw [if_pos ((f_inN h).elim Or.inl (fun z => Or.inr (by rw [Int32.lt_iff_toInt_lt] at z; rw [Int32.le_iff_toInt_le]; exact z)))] at hsp
      exact hsp M hR
    · have h := f_inY h
      have h7 : k < 7 := by
        have := h.2
        rw [Int32.le_iff_toInt_le] at this
        rw [Int32.lt_iff_toInt_lt]
        have e6 : (6 : Int32).toInt = 6 := by decide
        have e7 : (7 : Int32).toInt = 7 := by decide
        omega
      rw [if_neg (fun z => z.elim (Int32.not_lt.mpr h.1) (fun z => Int32.not_lt.mpr z h7))] at hsp
      refine f_run_ok (stop := fun q => Nat.beq q 25) hX 40 _ _ _ _ _ ?_
      refine And.intro (fun h2 => ?_) (fun h2 => ?_)
      · rw [if_pos (f_inN h2)] at hsp
        exact hsp M hR
      · have h2 := f_inY h2
        rw [if_neg (fun z => z.elim (Int32.not_lt.mpr h2.1) (Int32.not_lt.mpr h2.2))] at hsp
        refine f_run_ok (stop := fun q => Nat.beq q 39) hX 40 _ _ _ _ _ ?_
        refine And.intro (v9 0 (by decide)) (And.intro (fun h3 => ?_) (fun h3 => ?_))
        · have h3 : M.1 101 0 = 6 := h3
          rw [hR.nb] at h3
          have h3 := (nI_eq (b := 6) (by omega) (by omega)).mp h3
          rw [if_pos (by omega)] at hsp
          exact hsp M hR
        · have h3 : ¬ M.1 101 0 = 6 := h3
          rw [hR.nb] at h3
          have h3 : ¬ s.1.1 0 0 = 6 := fun z => h3 (by rw [z]; rfl)
          rw [if_neg (by omega)] at hsp
          have r1 := hR.sU (k := 9 + s.1.1 0 0) (hR.1.r1 hS.sn (f_n k) (by omega))
          have r2 := r1.sU (k := 15 + s.1.1 0 0) (r1.1.r2 hS.sn (f_n v) (by omega))
          rw [f_nn h.1, f_nn h2.1] at r2
          have hn := hR.nb
          generalize s.1.1 0 0 = nb at *
          refine f_run_ok (stop := fun q => Nat.beq q 46) hX 40 _ _ _ _ _ ?_
          refine And.intro (v9 0 (by decide)) ?_
          show X f_GM 46 [some (.ref 100), some (.int k), some (.int v), some (.int (M.1 101 0)), none] [] M
          rw [hn]
          obtain ⟨i1, i2⟩ := f_ix (n := 906) (show 9 + nI nb = nI (9 + nb) from nI_add 9 nb) (by omega) (by omega)
          obtain ⟨j1, j2⟩ := f_ix (n := 906) (show 15 + nI nb = nI (15 + nb) from nI_add 15 nb) (by omega) (by omega)
          refine f_run_ok (stop := fun q => Nat.beq q 69) hX 40 _ _ _ _ _ ?_
          refine And.intro i1 (And.intro j1 ?_)
          show X f_GM 69 [some (.ref 100), some (.int k), some (.int v), some (.int (nI nb)), some (.int (nI 0))] [] (f_up (f_up M.1 101 (9 + nI nb).toNatClampNeg k) 101 (15 + nI nb).toNatClampNeg v, M.2)
          rw [i2, j2]
          have step : ∀ (j : Nat) (M1 : fMem), j < 4 → X f_GM 69 [some (.ref 100), some (.int k), some (.int v), some (.int (nI nb)), some (.int (nI (j + 1)))] [] (f_up M1.1 101 (21 + (nb * 4 + j)) (nI 0), M1.2) → X f_GM 69 [some (.ref 100), some (.int k), some (.int v), some (.int (nI nb)), some (.int (nI j))] [] M1 := by
            intro j M1 hj hx
            have e : 21 + 4 * nI nb + nI j = nI (21 + (nb * 4 + j)) := by
              have e1 : 4 * nI nb = nI (nb * 4) := by rw [Nat.mul_comm]; exact pk_mul 4 nb
              rw [e1, show 21 + nI (nb * 4) = nI (21 + nb * 4) from nI_add 21 _, nI_add, Nat.add_assoc]
            obtain ⟨k1, k2⟩ := f_ix (n := 906) e (by omega) (by omega)
            refine f_run_ok (stop := fun q => Nat.beq q 69) hX 30 _ _ _ _ _ ?_
            refine And.intro (fun z => absurd ((nI_leI (a := 4) (by omega) (by omega)).mp z) (by omega)) (fun _ => ?_)
            refine And.intro k1 ?_
            rw [nI_succ, ← k2] at hx
            exact hx
          have r3 := r2.sU (k := 21 + (nb * 4 + 0)) (r2.1.r3 hS.sn 0 (by omega))
          have r4 := r3.sU (k := 21 + (nb * 4 + 1)) (r3.1.r3 hS.sn 0 (by omega))
          have r5 := r4.sU (k := 21 + (nb * 4 + 2)) (r4.1.r3 hS.sn 0 (by omega))
          have r6 := r5.sU (k := 21 + (nb * 4 + 3)) (r5.1.r3 hS.sn 0 (by omega))
          have r7 := r6.sU (k := 0) (r6.1.n00 (nb + 1))
          refine step 0 _ (by omega) (step 1 _ (by omega) (step 2 _ (by omega) (step 3 _ (by omega) ?_)))
          refine f_run_ok (stop := fun q => false) hX 30 _ _ _ _ _ ?_
          refine And.intro (fun _ => ?_) (fun z => absurd (show (4 : Int32) ≤ nI (3 + 1) by decide) z)
          have e0 : f_up (f_up (f_up (f_up (f_up (f_up M.1 101 (9 + nb) k) 101 (15 + nb) v) 101 (21 + (nb * 4 + 0)) (nI 0)) 101 (21 + (nb * 4 + 1)) (nI 0)) 101 (21 + (nb * 4 + 2)) (nI 0)) 101 (21 + (nb * 4 + 3)) (nI 0) 101 0 = nI nb := by
            rw [f_upo (by omega), f_upo (by omega), f_upo (by omega), f_upo (by omega), f_upo (by omega), f_upo (by omega), hn]
          rw [nI_succ, ← e0] at r7
          exact And.intro (v9 0 (by decide)) (And.intro (v9 0 (by decide)) (hsp _ r7))
theorem f_ngM {s : fSt} {b : Int32} : decide (0 ≤ b ∧ b < nI (s.1.1 0 0)) = f_ng b s := rfl
theorem f_RM.kdi {s : fSt} {M : fMem} {b : Nat} (hR : f_RM s M) (hb : b < 6) : vp_in (9 + nI b) 906 ∧ M.1 101 (9 + nI b).toNatClampNeg = nI (s.1.1 1 b) := by
  obtain ⟨i1, i2⟩ := f_ix (n := 906) (show 9 + nI b = nI (9 + b) from nI_add 9 b) (by omega) (by omega)
  exact ⟨i1, by rw [i2]; exact hR.kd b hb⟩
theorem f_RM.vli {s : fSt} {M : fMem} {b : Nat} (hR : f_RM s M) (hb : b < 6) : vp_in (15 + nI b) 906 ∧ M.1 101 (15 + nI b).toNatClampNeg = nI (s.1.1 2 b) := by
  obtain ⟨i1, i2⟩ := f_ix (n := 906) (show 15 + nI b = nI (15 + b) from nI_add 15 b) (by omega) (by omega)
  exact ⟨i1, by rw [i2]; exact hR.vl b hb⟩
theorem f_rwix {b k : Nat} (hb : b < 6) (hk : k < 4) : vp_in (21 + 4 * nI b + nI k) 906 ∧ (21 + 4 * nI b + nI k).toNatClampNeg = 21 + (b * 4 + k) := by
  have e : 21 + 4 * nI b + nI k = nI (21 + (b * 4 + k)) := by
    have e1 : 4 * nI b = nI (b * 4) := by rw [Nat.mul_comm]; exact pk_mul 4 b
    rw [e1, show 21 + nI (b * 4) = nI (21 + b * 4) from nI_add 21 _, nI_add, Nat.add_assoc]
  exact f_ix e (by omega) (by omega)
set_option maxRecDepth 20000 in
theorem m_y_row : f_Meets 5 (kX12_row S_yB S_in) (f_y3 p_row) := by
  intro G As M R hsp X hX hW
  match As, hsp with
  | [.ref 100, .int b, .int k, .int n], ⟨s, hG, hS, hR, hsp⟩ =>
    subst hG
    unfold p_row at hsp
    have bad1 : (f_ng b s = false ∨ k < 0 ∨ 4 ≤ k) → X f_GM 17 [some (.ref 100), some (.int b), some (.int k), some (.int n), none] [] M := by
      intro h
      rw [if_pos h] at hsp
      exact f_run_ok (stop := fun _ => false) hX 10 _ _ _ _ _ (hsp M hR)
    refine f_run_ok (stop := fun q => Nat.beq q 17 || Nat.beq q 19) hX 40 _ _ _ _ _ ?_
    refine ⟨s.1.1 0 0, rfl, by have := hS.nb; omega, hR.nb, ?_⟩
    rw [f_ngM]
    cases hb : f_ng b s with
    | false => exact And.intro (fun _ => bad1 (Or.inl hb)) (fun z => absurd rfl z)
    | true =>
      obtain ⟨b1, b2, b3⟩ := f_ng_t hS hb
      refine And.intro (fun z => absurd z (by decide)) (fun _ => ?_)
      refine And.intro (fun h => ?_) (fun h => ?_)
      · have h : f_b (decide (0 ≤ k ∧ k ≤ 3)) = 0 := h
        exact bad1 (Or.inr ((f_inN h).elim Or.inl (fun z => Or.inr (by rw [Int32.lt_iff_toInt_lt] at z; rw [Int32.le_iff_toInt_le]; exact z))))
      have h : ¬ f_b (decide (0 ≤ k ∧ k ≤ 3)) = 0 := h
      have h := f_inY h
      obtain ⟨K, hKb, rfl⟩ := nI_of (x := k) (Int32.not_lt.mpr h.1)
      have k3 := (nI_leI (b := 3) hKb (by omega)).mp h.2
      rw [if_neg (by
        rw [hb]
        intro z
        rcases z with z | z | z
        · cases z
        · exact Int32.not_lt.mpr h.1 z
        · have := (nI_leI (a := 4) (by omega) hKb).mp z; omega)] at hsp
      clear bad1
      refine f_run_ok (stop := fun q => Nat.beq q 32) hX 40 _ _ _ _ _ ?_
      refine And.intro (fun h2 => ?_) (fun h2 => ?_)
      · rw [if_pos (f_inN h2)] at hsp
        exact hsp M hR
      have h2 := f_inY h2
      rw [if_neg (fun z => z.elim (Int32.not_lt.mpr h2.1) (Int32.not_lt.mpr h2.2)), f_n_nI hKb] at hsp
      generalize f_n b = B at *
      subst b3
      obtain ⟨i1, i2⟩ := hR.kdi b2
      obtain ⟨j1, j2⟩ := f_rwix b2 (k := K) (by omega)
      have hkd7 := hS.kd B
      refine f_run_ok (stop := fun q => Nat.beq q 49) hX 40 _ _ _ _ _ ?_
      refine And.intro i1 (And.intro (fun h3 => ?_) (fun h3 => ?_))
      · have h3 : M.1 101 (9 + nI B).toNatClampNeg = 6 := h3
        rw [i2] at h3
        have h3 := (nI_eq (b := 6) (by omega) (by omega)).mp h3
        rw [if_neg (fun z => z h3)] at hsp
        have r1 := hR.sU (k := 21 + (B * 4 + K)) (hR.1.r3 hS.sn (f_n n) (by omega))
        rw [f_nn h2.1] at r1
        refine f_run_ok (stop := fun q => false) hX 40 _ _ _ _ _ ?_
        refine And.intro j1 (And.intro j1 ?_)
        rw [← j2] at r1
        refine f_fin (hsp _ r1) ?_ rfl
        show some (Value.int (nI (s.1.1 3 (B * 4 + K)))) = some (Value.int (M.1 101 (21 + 4 * nI B + nI K).toNatClampNeg))
        rw [j2, hR.rw _ (by omega)]
      · have h3 : ¬ M.1 101 (9 + nI B).toNatClampNeg = 6 := h3
        rw [i2] at h3
        rw [if_pos (fun z => h3 (by rw [z]; rfl))] at hsp
        exact hsp M hR
set_option maxRecDepth 20000 in
theorem m_y_told : f_Meets 2 (kX12_told S_lo S_cu S_cnt) (f_y1 p_told) := by
  intro G As M R hsp X hX hW
  match As, hsp with
  | [.ref 100, .int w], ⟨s, hG, hS, hR, hsp⟩ =>
    subst hG
    unfold p_told at hsp
    refine f_run_ok (stop := fun q => false) hX 40 _ _ _ _ _ ?_
    refine And.intro (fun h => ?_) (fun h => And.intro (fun h2 => ?_) (fun h2 => And.intro (fun h3 => ?_) (fun h3 => And.intro (fun h4 => ?_) (fun h4 => ?_))))
    · rw [if_pos h] at hsp
      exact ⟨s.1.2.2, rfl, hR.hr, hsp M hR⟩
    · rw [if_neg h, if_pos h2] at hsp
      exact ⟨s.1.2.2, rfl, hR.hr, hsp M hR⟩
    · rw [if_neg h, if_neg h2, if_pos h3] at hsp
      exact And.intro (v9 7 (by decide)) ⟨s.1.1 0 2, hR.br, hS.br, f_fin (hsp M hR) (congrArg (fun z => some (Value.int z)) (nI_succ _)) rfl⟩
    · rw [if_neg h, if_neg h2, if_neg h3, if_pos h4] at hsp
      exact And.intro (v9 8 (by decide)) (f_fin (hsp M hR) (congrArg (fun z => some (Value.int z)) hR.sp.symm) rfl)
    · rw [if_neg h, if_neg h2, if_neg h3, if_neg h4] at hsp
      exact hsp M hR
set_option maxRecDepth 20000 in
theorem m_y_whole : f_Meets 2 (kX12_whole S_cnt) (f_y0 p_whole) := by
  intro G As M R hsp X hX hW
  match As, hsp with
  | [.ref 100], ⟨s, hG, hS, hR, hsp⟩ =>
    subst hG
    refine f_run_ok (stop := fun q => false) hX 40 _ _ _ _ _ ?_
    refine And.intro (v9 7 (by decide)) ⟨s.1.1 0 2, hR.br, hS.br, ?_⟩
    have r1 := hR.sU (k := 7) (hR.1.n02 0)
    have r2 := r1.sU (k := 8) (r1.1.nsp 0)
    exact And.intro (v9 7 (by decide)) (And.intro (v9 8 (by decide)) (f_fin (hsp _ r2) (congrArg (fun z => some (Value.int z)) (nI_succ _)) rfl))
theorem f_bkix {z : Int32} {i j : Nat} (hz : z = nI (59 + i)) (hj : i + j < 32) {y : Int32} (hy : y = nI j) : vp_in (z + y) 906 ∧ (z + y).toNatClampNeg = 59 + (i + j) := by
  subst hz; subst hy
  exact f_ix (n := 906) (by rw [nI_add, Nat.add_assoc]) (by omega) (by omega)
set_option maxRecDepth 20000 in
theorem m_y_book : f_Meets 6 (kX12_book S_in) (f_y4 p_book) := by
  intro G As M R hsp X hX hW
  match As, hsp with
  | [.ref 100, .int a, .int b, .int c, .int d], ⟨s, hG, hS, hR, hsp⟩ =>
    subst hG
    unfold p_book at hsp
    have hbk := hS.bk
    refine f_run_ok (stop := fun q => Nat.beq q 44 || Nat.beq q 47) hX 40 _ _ _ _ _ ?_
    refine And.intro (fun h => ?_) (fun h => ?_)
    · rw [if_pos h] at hsp
      exact And.intro (v9 4 (by decide)) (hsp _ (hR.sU (k := 4) (w := nI 0) (hR.1.n06 0)))
    · rw [if_neg h] at hsp
      have bad : (¬ (1 ≤ a ∧ a ≤ 99) ∨ ¬ (1 ≤ b ∧ b ≤ 99) ∨ ¬ (1 ≤ c ∧ c ≤ 99)) → X f_GM 44 [some (.ref 100), some (.int a), some (.int b), some (.int c), some (.int d), none] [] M := by
        intro h
        rw [if_pos h] at hsp
        exact f_run_ok (stop := fun _ => false) hX 10 _ _ _ _ _ (hsp M hR)
      refine And.intro (fun h1 => bad (Or.inl (of_decide_eq_false (f_b0.mp h1)))) (fun h1 => ?_)
      have h1 := of_decide_eq_true (f_b_nt h1)
      refine And.intro (fun h2 => bad (Or.inr (Or.inl (of_decide_eq_false (f_b0.mp h2))))) (fun h2 => ?_)
      have h2 := of_decide_eq_true (f_b_nt h2)
      refine And.intro (fun h3 => bad (Or.inr (Or.inr (of_decide_eq_false (f_b0.mp h3))))) (fun h3 => ?_)
      have h3 := of_decide_eq_true (f_b_nt h3)
      rw [if_neg (fun z => z.elim (fun z => z h1) (fun z => z.elim (fun z => z h2) (fun z => z h3)))] at hsp
      clear bad
      have a0 : 0 ≤ a := Int32.le_trans (by decide) h1.1
      have b0 : 0 ≤ b := Int32.le_trans (by decide) h2.1
      have c0 : 0 ≤ c := Int32.le_trans (by decide) h3.1
      refine f_run_ok (stop := fun q => Nat.beq q 61) hX 40 _ _ _ _ _ ?_
      refine And.intro (v9 4 (by decide)) (And.intro (fun h4 => ?_) (fun h4 => ?_))
      · have h4 : M.1 101 4 = 8 := h4
        rw [hR.bk] at h4
        have h4 := (nI_eq (b := 8) (by omega) (by omega)).mp h4
        rw [if_pos (by omega)] at hsp
        exact hsp M hR
      · have h4 : ¬ M.1 101 4 = 8 := h4
        rw [hR.bk] at h4
        have h4 : ¬ s.1.1 0 6 = 8 := fun z => h4 (by rw [z]; rfl)
        rw [if_neg (by omega)] at hsp
        refine f_run_ok (stop := fun q => Nat.beq q 74) hX 40 _ _ _ _ _ ?_
        refine And.intro (v9 4 (by decide)) ?_
        show X f_GM 74 [some (.ref 100), some (.int a), some (.int b), some (.int c), some (.int d), some (.int (59 + 4 * M.1 101 4))] [] M
        have e : 59 + 4 * M.1 101 4 = nI (59 + s.1.1 0 6 * 4) := by
          rw [hR.bk, show 4 * nI (s.1.1 0 6) = nI (4 * s.1.1 0 6) from pk_mul 4 _, Nat.mul_comm]
          exact nI_add 59 _
        rw [e]
        have hbi : s.1.1 0 6 * 4 + 3 < 32 := by omega
        have r1 := hR.sU (k := 59 + s.1.1 0 6 * 4) (hR.1.r7 hS.sn (f_n a) (by omega))
        have r2 := r1.sU (k := 59 + (s.1.1 0 6 * 4 + 1)) (r1.1.r7 hS.sn (f_n b) (by omega))
        have r3 := r2.sU (k := 59 + (s.1.1 0 6 * 4 + 2)) (r2.1.r7 hS.sn (f_n c) (by omega))
        generalize hi : s.1.1 0 6 * 4 = i at *
        obtain ⟨i1, i2⟩ := f_ix (z := nI (59 + i)) (n := 906) rfl (by omega) (by omega)
        obtain ⟨j1, j2⟩ := f_bkix (i := i) (j := 1) (y := 1) rfl (by omega) rfl
        obtain ⟨k1, k2⟩ := f_bkix (i := i) (j := 2) (y := 2) rfl (by omega) rfl
        obtain ⟨l1, l2⟩ := f_bkix (i := i) (j := 3) (y := 3) rfl (by omega) rfl
        rw [f_nn a0, f_nn b0, f_nn c0] at r3
        generalize hM3 : ((f_up (f_up (f_up M.1 101 (59 + i) a) 101 (59 + (i + 1)) b) 101 (59 + (i + 2)) c, M.2) : fMem) = M3 at r3
        have fin : ∀ v : Nat, v < 2 → v = (if d = 0 then 0 else 1) → X f_GM 120 [some (.ref 100), some (.int a), some (.int b), some (.int c), some (.int d), some (.int (nI (59 + i)))] [.int (nI v), .int (nI (59 + i) + 3), .ref 101] M3 := by
          intro v hv hd
          rw [← hd] at hsp
          have r4 := r3.sU (k := 59 + (i + 3)) (r3.1.r7 hS.sn v (by omega))
          refine f_run_ok (stop := fun q => Nat.beq q 121) hX 40 _ _ _ _ _ ?_
          refine And.intro l1 ?_
          show X f_GM 121 [some (.ref 100), some (.int a), some (.int b), some (.int c), some (.int d), some (.int (nI (59 + i)))] [] (f_up M3.1 101 (nI (59 + i) + 3).toNatClampNeg (nI v), M3.2)
          rw [l2]
          generalize ((f_up M3.1 101 (59 + (i + 3)) (nI v), M3.2) : fMem) = M4 at *
          refine f_run_ok (stop := fun _ => false) hX 40 _ _ _ _ _ ?_
          have r5 := r4.sU (k := 4) (r4.1.n06 (s.1.1 0 6 + 1))
          have e6 : M4.1 101 4 = nI (s.1.1 0 6) := r4.bk
          rw [nI_succ, ← e6] at r5
          refine And.intro (v9 4 (by decide)) (And.intro (v9 4 (by decide)) (And.intro (v9 4 (by decide)) ?_))
          refine f_fin (hsp _ r5) ?_ rfl
          show some (Value.int (nI (s.1.1 0 6 + 1))) = some (Value.int (M4.1 101 4 + 1))
          rw [e6, nI_succ]
        have eM : ((f_up (f_up (f_up M.1 101 (nI (59 + i)).toNatClampNeg a) 101 (nI (59 + i) + 1).toNatClampNeg b) 101 (nI (59 + i) + 2).toNatClampNeg c, M.2) : fMem) = M3 := by rw [i2, j2, k2]; exact hM3
        refine f_run_ok (stop := fun q => Nat.beq q 120) hX 60 _ _ _ _ _ ?_
        refine And.intro i1 (And.intro j1 (And.intro k1 ?_))
        refine And.intro (fun hd => ?_) (fun hd => ?_)
        · have hd : d = 0 := hd
          have q := fin 0 (by omega) (by rw [if_pos hd])
          rw [← eM] at q
          exact q
        · have hd : ¬ d = 0 := hd
          have q := fin 1 (by omega) (by rw [if_neg hd])
          rw [← eM] at q
          exact q
