/-! ===== the reference: a yard is read: every, some ===== -/
set_option maxRecDepth 20000 in
theorem m_evy (e : Nat) : f_Meets 1 (kX12_every (S_fac e) S_he S_emt) (S_evy e) := by
  intro G As M R hsp X hX hW
  match As, hsp with
  | [.ref 100], ⟨T, n, p, a, w, q, L, C, hG, he5, hY, hf, ht⟩ =>
    subst hG
    have hT := hY.lt
    have hn := hY.2.2.2.2.2.1
    cases w with
    | true =>
      have ht := ht rfl
      refine f_run_ok (stop := fun q => false) hX 40 _ _ _ _ _ ?_
      refine ⟨T, n, p, a, true, q, L, C, rfl, he5, hY, fun z => absurd z (by decide), fun _ => ?_⟩
      have h7 : M.1 100 7 = f_b true := hY.2.2.2.2.2.2.1
      refine And.intro (fun z => ?_) (fun _ => ht)
      have z : M.1 100 7 = 0 := z
      rw [h7] at z
      exact absurd z (by decide)
    | false =>
      obtain ⟨hq, hC, hb, hsp⟩ := hf rfl
      clear hf ht
      have hsp : f_ydo M T n a L q (f_ser T n 38 2001 (f_pf T n e) p C) R := hsp
      have hg : f_good n (f_pf T n e) := f_pf_good T n e
      -- on, as long as the sign is there
      have loop : ∀ (k p1 : Nat) (w1 : Bool) (C1 : List Nat) (M1 : fMem), n ≤ p1 + k → f_yq (f_zs a) M M1 → f_YS M1 T n p1 a w1 q → (w1 = false → f_YC M1 a (L ++ C1.map f_rst) ∧ L.length + C1.length ≤ p1 ∧ f_ydo M T n a L q (f_rep T n 38 2001 (f_pf T n e) k p1 C1) R) → (w1 = true → R f_GM none M1) → X f_GM 4 [some (.ref 100)] [] M1 := by
        intro k
        induction k with
        | zero =>
          intro p1 w1 C1 M1 hk hq1 hY1 g1 g2
          have h7 : M1.1 100 7 = f_b w1 := hY1.2.2.2.2.2.2.1
          refine f_run_ok (stop := fun q => Nat.beq q 20) hX 40 _ _ _ _ _ ?_
          refine And.intro (fun z => ?_) (fun z => ?_)
          · have z : M1.1 100 7 = 0 := z
            rw [h7] at z
            have hw := f_b0.mp z
            subst hw
            obtain ⟨c1, c2, c3⟩ := g1 rfl
            refine ⟨T, n, p1, a, false, q, rfl, hY1, ?_⟩
            refine And.intro (fun z2 => ?_) (fun _ => c3 M1 hq1 hY1 (fun _ => c1))
            have z2 := f_is_lt ((f_sg_eq hT (c := 38) (by omega)).mp z2)
            have := hY1.2.2.2.1
            omega
          · have z : ¬ M1.1 100 7 = 0 := z
            rw [h7] at z
            exact g2 (f_b_nt z)
        | succ k ih =>
          intro p1 w1 C1 M1 hk hq1 hY1 g1 g2
          have h7 : M1.1 100 7 = f_b w1 := hY1.2.2.2.2.2.2.1
          have h5 : M1.1 100 5 = nI p1 := hY1.2.2.1
          refine f_run_ok (stop := fun q => Nat.beq q 20) hX 40 _ _ _ _ _ ?_
          refine And.intro (fun z => ?_) (fun z => ?_)
          · have z : M1.1 100 7 = 0 := z
            rw [h7] at z
            have hw := f_b0.mp z
            subst hw
            obtain ⟨c1, c2, c3⟩ := g1 rfl
            have hun : f_rep T n 38 2001 (f_pf T n e) (k + 1) p1 C1 = if f_is T n p1 38 = true then (if (f_pf T n e (p1 + 1) C1).1 = true then f_rep T n 38 2001 (f_pf T n e) k (f_pf T n e (p1 + 1) C1).2.1 ((f_pf T n e (p1 + 1) C1).2.2 ++ [2001]) else f_pf T n e (p1 + 1) C1) else (true, p1, C1) := rfl
            rw [hun] at c3
            refine ⟨T, n, p1, a, false, q, rfl, hY1, ?_⟩
            refine And.intro (fun z2 => ?_) (fun z2 => ?_)
            · have z2 := (f_sg_eq hT (c := 38) (by omega)).mp z2
              have hlt := f_is_lt z2
              rw [if_pos z2] at c3
              have hY2 := hY1.sp (q := p1 + 1) (by omega)
              have hq2 : f_yq (f_zs a) M1 (f_up M1.1 100 5 (nI (p1 + 1)), M1.2) := f_yq.of (f_em.rf.uf (k := 5) (by decide))
              have hC2 : f_YC (f_up M1.1 100 5 (nI (p1 + 1)), M1.2) a (L ++ C1.map f_rst) := c1.of rfl
              have hgg := hg (p1 + 1) C1 (by omega)
              have next : X f_GM 30 [some (.ref 100)] [] (f_up M1.1 100 5 (nI (p1 + 1)), M1.2) := by
                refine f_run_ok (stop := fun q => Nat.beq q 4) hX 40 _ _ _ _ _ ?_
                refine ⟨T, n, p1 + 1, a, false, q, L, C1, rfl, he5, hY2, fun _ => ⟨hq, hC2, by omega, fun M3 hq3 hY3 hC3 => ?_⟩, fun z => absurd z (by decide)⟩
                have hY3 : f_YS M3 T n (f_pf T n e (p1 + 1) C1).2.1 a (!(f_pf T n e (p1 + 1) C1).1) q := hY3
                have hC3 : (f_pf T n e (p1 + 1) C1).1 = true → f_YC M3 a (L ++ (f_pf T n e (p1 + 1) C1).2.2.map f_rst) := hC3
                generalize f_pf T n e (p1 + 1) C1 = r at *
                refine ⟨T, n, r.2.1, a, !r.1, q, L ++ r.2.2.map f_rst, rfl, hY3, fun z => ⟨hC3 (by simpa using z), by rw [List.length_append, List.length_map]; omega⟩, fun M4 hq4 hY4 hC4 => ?_⟩
                have hq14 := (hq1.tr hq2).tr (hq3.tr hq4)
                by_cases hr1 : r.1 = true
                · rw [if_pos hr1] at c3
                  rw [hr1] at hY4 hC4
                  refine ih r.2.1 false (r.2.2 ++ [2001]) M4 (by omega) hq14 hY4 (fun _ => ⟨?_, by rw [List.length_append]; show L.length + (r.2.2.length + 1) ≤ r.2.1; omega, c3⟩) (fun y => absurd y (by decide))
                  rw [List.map_append, ← List.append_assoc]
                  exact hC4 rfl
                · rw [if_neg hr1] at c3
                  have hr1' : r.1 = false := Bool.eq_false_iff.mpr hr1
                  refine ih r.2.1 true [] M4 (by omega) hq14 (by rw [hr1'] at hY4; exact hY4) (fun y => absurd y (by decide)) (fun _ => c3 M4 hq14 hY4 (fun y => absurd y hr1))
              rw [nI_succ, ← h5] at next
              exact f_run_ok (stop := fun q => Nat.beq q 30) hX 40 _ _ _ _ _ next
            · have z2 : ¬ f_is T n p1 38 = true := fun y => z2 ((f_sg_eq hT (c := 38) (by omega)).mpr y)
              rw [if_neg z2] at c3
              exact c3 M1 hq1 hY1 (fun _ => c1)
          · have z : ¬ M1.1 100 7 = 0 := z
            rw [h7] at z
            exact g2 (f_b_nt z)
      have hgg := hg p C hY.2.2.2.1
      refine f_run_ok (stop := fun q => Nat.beq q 4) hX 40 _ _ _ _ _ ?_
      refine ⟨T, n, p, a, false, q, L, C, rfl, he5, hY, fun _ => ⟨hq, hC, hb, fun M3 hq3 hY3 hC3 => ?_⟩, fun z => absurd z (by decide)⟩
      have hY3 : f_YS M3 T n (f_pf T n e p C).2.1 a (!(f_pf T n e p C).1) q := hY3
      have hC3 : (f_pf T n e p C).1 = true → f_YC M3 a (L ++ (f_pf T n e p C).2.2.map f_rst) := hC3
      have hun : f_ser T n 38 2001 (f_pf T n e) p C = if (f_pf T n e p C).1 = true then f_rep T n 38 2001 (f_pf T n e) 100 (f_pf T n e p C).2.1 (f_pf T n e p C).2.2 else f_pf T n e p C := rfl
      rw [hun] at hsp
      generalize f_pf T n e p C = r at *
      by_cases hr1 : r.1 = true
      · rw [if_pos hr1] at hsp
        rw [hr1] at hY3
        exact loop 100 r.2.1 false r.2.2 M3 (by omega) hq3 hY3 (fun _ => ⟨hC3 hr1, by omega, hsp⟩) (fun y => absurd y (by decide))
      · rw [if_neg hr1] at hsp
        have hr1' : r.1 = false := Bool.eq_false_iff.mpr hr1
        exact loop 100 r.2.1 true [] M3 (by omega) hq3 (by rw [hr1'] at hY3; exact hY3) (fun y => absurd y (by decide)) (fun _ => hsp M3 hq3 hY3 (fun y => absurd y hr1))
set_option maxRecDepth 20000 in
theorem m_sme (e : Nat) : f_Meets 1 (kX12_some (S_evy e) S_he S_emt) (S_sme e) := by
  intro G As M R hsp X hX hW
  match As, hsp with
  | [.ref 100], ⟨T, n, p, a, w, q, L, C, hG, he5, hY, hf, ht⟩ =>
    subst hG
    have hT := hY.lt
    have hn := hY.2.2.2.2.2.1
    cases w with
    | true =>
      have ht := ht rfl
      refine f_run_ok (stop := fun q => false) hX 40 _ _ _ _ _ ?_
      refine ⟨T, n, p, a, true, q, L, C, rfl, he5, hY, fun z => absurd z (by decide), fun _ => ?_⟩
      have h7 : M.1 100 7 = f_b true := hY.2.2.2.2.2.2.1
      refine And.intro (fun z => ?_) (fun _ => ht)
      have z : M.1 100 7 = 0 := z
      rw [h7] at z
      exact absurd z (by decide)
    | false =>
      obtain ⟨hq, hC, hb, hsp⟩ := hf rfl
      clear hf ht
      have hsp : f_ydo M T n a L q (f_ser T n 124 2002 (f_pb T n (f_pf T n e)) p C) R := hsp
      have hg : f_good n (f_pb T n (f_pf T n e)) := f_pb_good T n e
      -- on, as long as the sign is there
      have loop : ∀ (k p1 : Nat) (w1 : Bool) (C1 : List Nat) (M1 : fMem), n ≤ p1 + k → f_yq (f_zs a) M M1 → f_YS M1 T n p1 a w1 q → (w1 = false → f_YC M1 a (L ++ C1.map f_rst) ∧ L.length + C1.length ≤ p1 ∧ f_ydo M T n a L q (f_rep T n 124 2002 (f_pb T n (f_pf T n e)) k p1 C1) R) → (w1 = true → R f_GM none M1) → X f_GM 4 [some (.ref 100)] [] M1 := by
        intro k
        induction k with
        | zero =>
          intro p1 w1 C1 M1 hk hq1 hY1 g1 g2
          have h7 : M1.1 100 7 = f_b w1 := hY1.2.2.2.2.2.2.1
          refine f_run_ok (stop := fun q => Nat.beq q 20) hX 40 _ _ _ _ _ ?_
          refine And.intro (fun z => ?_) (fun z => ?_)
          · have z : M1.1 100 7 = 0 := z
            rw [h7] at z
            have hw := f_b0.mp z
            subst hw
            obtain ⟨c1, c2, c3⟩ := g1 rfl
            refine ⟨T, n, p1, a, false, q, rfl, hY1, ?_⟩
            refine And.intro (fun z2 => ?_) (fun _ => c3 M1 hq1 hY1 (fun _ => c1))
            have z2 := f_is_lt ((f_sg_eq hT (c := 124) (by omega)).mp z2)
            have := hY1.2.2.2.1
            omega
          · have z : ¬ M1.1 100 7 = 0 := z
            rw [h7] at z
            exact g2 (f_b_nt z)
        | succ k ih =>
          intro p1 w1 C1 M1 hk hq1 hY1 g1 g2
          have h7 : M1.1 100 7 = f_b w1 := hY1.2.2.2.2.2.2.1
          have h5 : M1.1 100 5 = nI p1 := hY1.2.2.1
          refine f_run_ok (stop := fun q => Nat.beq q 20) hX 40 _ _ _ _ _ ?_
          refine And.intro (fun z => ?_) (fun z => ?_)
          · have z : M1.1 100 7 = 0 := z
            rw [h7] at z
            have hw := f_b0.mp z
            subst hw
            obtain ⟨c1, c2, c3⟩ := g1 rfl
            have hun : f_rep T n 124 2002 (f_pb T n (f_pf T n e)) (k + 1) p1 C1 = if f_is T n p1 124 = true then (if (f_pb T n (f_pf T n e) (p1 + 1) C1).1 = true then f_rep T n 124 2002 (f_pb T n (f_pf T n e)) k (f_pb T n (f_pf T n e) (p1 + 1) C1).2.1 ((f_pb T n (f_pf T n e) (p1 + 1) C1).2.2 ++ [2002]) else f_pb T n (f_pf T n e) (p1 + 1) C1) else (true, p1, C1) := rfl
            rw [hun] at c3
            refine ⟨T, n, p1, a, false, q, rfl, hY1, ?_⟩
            refine And.intro (fun z2 => ?_) (fun z2 => ?_)
            · have z2 := (f_sg_eq hT (c := 124) (by omega)).mp z2
              have hlt := f_is_lt z2
              rw [if_pos z2] at c3
              have hY2 := hY1.sp (q := p1 + 1) (by omega)
              have hq2 : f_yq (f_zs a) M1 (f_up M1.1 100 5 (nI (p1 + 1)), M1.2) := f_yq.of (f_em.rf.uf (k := 5) (by decide))
              have hC2 : f_YC (f_up M1.1 100 5 (nI (p1 + 1)), M1.2) a (L ++ C1.map f_rst) := c1.of rfl
              have hgg := hg (p1 + 1) C1 (by omega)
              have next : X f_GM 30 [some (.ref 100)] [] (f_up M1.1 100 5 (nI (p1 + 1)), M1.2) := by
                refine f_run_ok (stop := fun q => Nat.beq q 4) hX 40 _ _ _ _ _ ?_
                refine ⟨T, n, p1 + 1, a, false, q, L, C1, rfl, he5, hY2, fun _ => ⟨hq, hC2, by omega, fun M3 hq3 hY3 hC3 => ?_⟩, fun z => absurd z (by decide)⟩
                have hY3 : f_YS M3 T n (f_pb T n (f_pf T n e) (p1 + 1) C1).2.1 a (!(f_pb T n (f_pf T n e) (p1 + 1) C1).1) q := hY3
                have hC3 : (f_pb T n (f_pf T n e) (p1 + 1) C1).1 = true → f_YC M3 a (L ++ (f_pb T n (f_pf T n e) (p1 + 1) C1).2.2.map f_rst) := hC3
                generalize f_pb T n (f_pf T n e) (p1 + 1) C1 = r at *
                refine ⟨T, n, r.2.1, a, !r.1, q, L ++ r.2.2.map f_rst, rfl, hY3, fun z => ⟨hC3 (by simpa using z), by rw [List.length_append, List.length_map]; omega⟩, fun M4 hq4 hY4 hC4 => ?_⟩
                have hq14 := (hq1.tr hq2).tr (hq3.tr hq4)
                by_cases hr1 : r.1 = true
                · rw [if_pos hr1] at c3
                  rw [hr1] at hY4 hC4
                  refine ih r.2.1 false (r.2.2 ++ [2002]) M4 (by omega) hq14 hY4 (fun _ => ⟨?_, by rw [List.length_append]; show L.length + (r.2.2.length + 1) ≤ r.2.1; omega, c3⟩) (fun y => absurd y (by decide))
                  rw [List.map_append, ← List.append_assoc]
                  exact hC4 rfl
                · rw [if_neg hr1] at c3
                  have hr1' : r.1 = false := Bool.eq_false_iff.mpr hr1
                  refine ih r.2.1 true [] M4 (by omega) hq14 (by rw [hr1'] at hY4; exact hY4) (fun y => absurd y (by decide)) (fun _ => c3 M4 hq14 hY4 (fun y => absurd y hr1))
              rw [nI_succ, ← h5] at next
              exact f_run_ok (stop := fun q => Nat.beq q 30) hX 40 _ _ _ _ _ next
            · have z2 : ¬ f_is T n p1 124 = true := fun y => z2 ((f_sg_eq hT (c := 124) (by omega)).mpr y)
              rw [if_neg z2] at c3
              exact c3 M1 hq1 hY1 (fun _ => c1)
          · have z : ¬ M1.1 100 7 = 0 := z
            rw [h7] at z
            exact g2 (f_b_nt z)
      have hgg := hg p C hY.2.2.2.1
      refine f_run_ok (stop := fun q => Nat.beq q 4) hX 40 _ _ _ _ _ ?_
      refine ⟨T, n, p, a, false, q, L, C, rfl, he5, hY, fun _ => ⟨hq, hC, hb, fun M3 hq3 hY3 hC3 => ?_⟩, fun z => absurd z (by decide)⟩
      have hY3 : f_YS M3 T n (f_pb T n (f_pf T n e) p C).2.1 a (!(f_pb T n (f_pf T n e) p C).1) q := hY3
      have hC3 : (f_pb T n (f_pf T n e) p C).1 = true → f_YC M3 a (L ++ (f_pb T n (f_pf T n e) p C).2.2.map f_rst) := hC3
      have hun : f_ser T n 124 2002 (f_pb T n (f_pf T n e)) p C = if (f_pb T n (f_pf T n e) p C).1 = true then f_rep T n 124 2002 (f_pb T n (f_pf T n e)) 100 (f_pb T n (f_pf T n e) p C).2.1 (f_pb T n (f_pf T n e) p C).2.2 else f_pb T n (f_pf T n e) p C := rfl
      rw [hun] at hsp
      generalize f_pb T n (f_pf T n e) p C = r at *
      by_cases hr1 : r.1 = true
      · rw [if_pos hr1] at hsp
        rw [hr1] at hY3
        exact loop 100 r.2.1 false r.2.2 M3 (by omega) hq3 hY3 (fun _ => ⟨hC3 hr1, by omega, hsp⟩) (fun y => absurd y (by decide))
      · rw [if_neg hr1] at hsp
        have hr1' : r.1 = false := Bool.eq_false_iff.mpr hr1
        exact loop 100 r.2.1 true [] M3 (by omega) hq3 (by rw [hr1'] at hY3; exact hY3) (fun y => absurd y (by decide)) (fun _ => hsp M3 hq3 hY3 (fun y => absurd y hr1))
