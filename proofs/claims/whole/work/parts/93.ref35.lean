/-! ===== the reference: a yard is read: factors ===== -/
def f_ydo (M : fMem) (T : Nat → Nat) (n a : Nat) (L : List Int32) (q : Nat) (r : fRs) (R : fR) : Prop := ∀ M', f_yq (f_zs a) M M' → f_YS M' T n r.2.1 a (!r.1) q → (r.1 = true → f_YC M' a (L ++ r.2.2.map f_rst)) → R f_GM none M'
theorem f_ydo.of {M M1 : fMem} {T : Nat → Nat} {n a q : Nat} {L : List Int32} {r : fRs} {R : fR} (h : f_ydo M T n a L q r R) (h1 : f_yq (f_zs a) M M1) : f_ydo M1 T n a L q r R := fun M' a1 a2 a3 => h M' (h1.tr a1) a2 a3
def S_yr (e : Nat) (F : (Nat → Nat) → Nat → Nat → List Nat → fRs) : fSp := fun G As M R => match As with
  | [.ref 100] => ∃ (T : Nat → Nat) (n p a : Nat) (w : Bool) (q : Nat) (L : List Int32) (C : List Nat), G = f_GM ∧ e ≤ 5 ∧ f_YS M T n p a w q ∧ (w = false → q = 5 - e ∧ f_YC M a (L ++ C.map f_rst) ∧ L.length + C.length ≤ p ∧ f_ydo M T n a L q (F T n p C) R) ∧ (w = true → R f_GM none M)
  | _ => False
def S_wrg : fSp := fun G As M R => match As with
  | [.ref 100] => ∃ (T : Nat → Nat) (n p a q : Nat), G = f_GM ∧ f_YS M T n p a true q ∧ R f_GM none M
  | _ => False
def S_fac (e : Nat) : fSp := S_yr e (fun T n => f_pf T n e)
def S_evy (e : Nat) : fSp := S_yr e (fun T n => f_pb T n (f_pf T n e))
def S_sme (e : Nat) : fSp := S_yr e (fun T n => f_pe T n (f_pf T n e))
theorem f_rst_t3 {a b v : Nat} (ha : a < 5) (hb : b < 3) (hv : v < 100) : f_rst ((a * 3 + b) * 100 + v) = nI (a + 8 * b + 32 * v) := by
  rw [f_rst_test (by omega)]
  have e1 : ((a * 3 + b) * 100 + v) / 300 = a := by omega
  have e2 : ((a * 3 + b) * 100 + v) / 100 % 3 = b := by omega
  have e3 : ((a * 3 + b) * 100 + v) % 100 = v := by omega
  rw [e1, e2, e3]
theorem f_YS.um {M M' : fMem} {T : Nat → Nat} {n p a q : Nat} {w : Bool} (h : f_YS M T n p a w q) (e : M'.1 100 = M.1 100) (e2 : M'.1 101 = M.1 101) : f_YS M' T n p a w q := by
  unfold f_YS at *
  rw [e, e2]
  exact h
set_option maxRecDepth 20000 in
theorem m_fac (e : Nat) (sF sS : fSp) (h0 : e = 0 → sF = S_wrg ∧ sS = S_wrg) (hs : ∀ d, e = d + 1 → sF = S_fac d ∧ sS = S_sme d) : f_Meets 5 (kX12_factor S_he sF S_emt sS S_mst S_am S_fgr) (S_fac e) := by
  intro G As M R hsp X hX hW
  match As, hsp with
  | [.ref 100], ⟨T, n, p, a, w, q, L, C, hG, he5, hY, hf, ht⟩ =>
    subst hG
    have h7 : M.1 100 7 = f_b w := hY.2.2.2.2.2.2.1
    have h5 : M.1 100 5 = nI p := hY.2.2.1
    have h8 : M.1 100 8 = nI q := hY.2.2.2.2.2.2.2.1
    have hpn := hY.2.2.2.1
    have hn := hY.2.2.2.2.2.1
    have ha5 := hY.2.1
    refine f_run_ok (stop := fun q => Nat.beq q 8) hX 40 _ _ _ _ _ ?_
    refine And.intro (fun h => ?_) (fun h => ?_)
    rotate_left
    · have h : ¬ M.1 100 7 = 0 := h
      rw [h7] at h
      exact ht (f_b_nt h)
    have h : M.1 100 7 = 0 := h
    rw [h7] at h
    have hw := f_b0.mp h
    subst hw
    obtain ⟨hq, hC, hb, hsp⟩ := hf rfl
    have hsp : f_ydo M T n a L q (f_pf T n e p C) R := hsp
    clear hf ht h
    have hT := hY.lt
    -- the test's number, and the step
    have tail : ∀ (M1 : fMem) (p1 : Nat) (w1 : Bool) (z1 z2 z3 : Int32), f_em [1005, 1007] M M1 → f_YS M1 T n p1 a w1 q → (w1 = true → f_pf T n e p C = (false, p1, C)) → (w1 = false → ∃ A B, z2 = nI A ∧ z3 = nI B ∧ A < 5 ∧ B < 3 ∧ p1 = p + 2 ∧ f_pf T n e p C = f_ptst T n p C ∧ f_let T n p = some A ∧ f_cm T n (p + 1) = some B) → X f_GM 172 [some (.ref 100), some (.int z1), some (.int z2), some (.int z3), none] [] M1 := by
      intro M1 p1 w1 z1 z2 z3 he1 hY1 g1 g2
      refine f_run_ok (stop := fun q => Nat.beq q 194) hX 40 _ _ _ _ _ ?_
      refine ⟨T, n, p1, a, w1, q, rfl, hY1, fun M2 he2 hY2 => ?_⟩
      have e12 := he1.tr he2
      have hq2 : f_yq (f_zs a) M M2 := f_yq.of e12
      have hC2 := hC.of (e12.1 101 (by decide) (by decide))
      cases w1 with
      | true =>
        have hr := g1 rfl
        have hfg : f_fg T n p1 true = (true, p1, 0) := rfl
        rw [hfg] at hY2
        refine ⟨T, n, p1, a, true, q, [], rfl, hY2, fun z => absurd z (by decide), fun M3 hq3 hY3 _ => ?_⟩
        rw [hr] at hsp
        exact f_run_ok (stop := fun q => false) hX 10 _ _ _ _ _ (hsp M3 (hq2.tr hq3) hY3 (fun z => absurd z Bool.false_ne_true))
      | false =>
        obtain ⟨A, B, hA, hB, hA5, hB3, hp1, hpf, hlt, hcm⟩ := g2 rfl
        subst hp1; subst hA; subst hB
        cases hnm : f_num T n (p + 2) with
        | none =>
          have hfg : f_fg T n (p + 2) false = (true, p + 2, 0) := by unfold f_fg; rw [if_neg (by decide), hnm]
          rw [hfg] at hY2
          have hr : f_ptst T n p C = (false, p + 2, C) := by unfold f_ptst; rw [hlt]; simp only [hcm, hnm]
          rw [hpf, hr] at hsp
          refine ⟨T, n, p + 2, a, true, q, [], rfl, hY2, fun z => absurd z (by decide), fun M3 hq3 hY3 _ => ?_⟩
          exact f_run_ok (stop := fun q => false) hX 10 _ _ _ _ _ (hsp M3 (hq2.tr hq3) hY3 (fun z => absurd z Bool.false_ne_true))
        | some r =>
          obtain ⟨v, x⟩ := r
          obtain ⟨v1, v2, v3⟩ := f_num_ok hnm
          have hfg : f_fg T n (p + 2) false = (false, x, v) := by unfold f_fg; rw [if_neg (by decide), hnm]
          rw [hfg] at hY2
          have hr : f_ptst T n p C = (true, x, C ++ [(A * 3 + B) * 100 + v]) := by unfold f_ptst; rw [hlt]; simp only [hcm, hnm]
          rw [hpf, hr] at hsp
          refine ⟨T, n, x, a, false, q, L ++ C.map f_rst, rfl, hY2, fun _ => ⟨hC2, by rw [List.length_append, List.length_map]; omega⟩, fun M3 hq3 hY3 hC3 => ?_⟩
          refine f_run_ok (stop := fun q => false) hX 10 _ _ _ _ _ (hsp M3 (hq2.tr hq3) hY3 (fun _ => ?_))
          have hC3 := hC3 rfl
          have ez : f_rst ((A * 3 + B) * 100 + v) = nI A + 8 * nI B + 32 * nI (f_fg T n (p + 2) false).2.2 := by
            rw [hfg, f_rst_t3 hA5 hB3 v1]
            show _ = nI A + nI 8 * nI B + nI 32 * nI v
            rw [pk_mul, pk_mul, nI_add, nI_add]
          show f_YC M3 a (L ++ (C ++ [(A * 3 + B) * 100 + v]).map f_rst)
          rw [List.map_append, ← List.append_assoc, List.map_cons, List.map_nil, ez]
          exact hC3
    have hq5 : q ≤ 5 := by omega
    -- a test
    have test : f_pf T n e p C = f_ptst T n p C → X f_GM 112 [some (.ref 100), some (.int (f_sg T n p)), none, none, none] [] M := by
      intro hpf
      refine f_run_ok (stop := fun q => Nat.beq q 133) hX 40 _ _ _ _ _ ?_
      refine ⟨T, n, p, a, false, q, 4, rfl, rfl, Or.inl rfl, hY, fun A hA => ?_, fun hA => ?_⟩
      · rw [f_let_amg hT] at hA
        obtain ⟨A5, Ap⟩ := f_let_ok hA
        have hY1 := (hY.sp (q := p + 1) (by omega)).wr false
        have he1 : f_em [1005, 1007] M (f_up (f_up M.1 100 5 (nI (p + 1))) 100 7 (f_b false), M.2) := (f_em.rf.uf (k := 5) (v := nI (p + 1)) (by decide)).uf (k := 7) (by decide)
        refine And.intro (fun z => absurd z (f_n1 (by omega))) (fun _ => And.intro (Or.inl rfl) ?_)
        show X f_GM 133 [some (.ref 100), some (.int (f_sg T n p)), some (.int (nI A)), none, none] [] (f_up (f_up M.1 100 5 (nI (p + 1))) 100 7 (f_b false), M.2)
        refine f_run_ok (stop := fun q => Nat.beq q 172) hX 40 _ _ _ _ _ ?_
        refine And.intro (fun _ => ?_) (fun z => absurd (show (f_b false : Int32) = 0 by decide) z)
        refine ⟨T, n, p + 1, a, false, q, 5, rfl, rfl, Or.inr rfl, hY1, fun B hB => ?_, fun hB => ?_⟩
        · rw [f_cm_amg hT] at hB
          obtain ⟨B3, Bp⟩ := f_cm_ok hB
          have hY2 := (hY1.sp (q := p + 2) (by omega)).wr false
          refine And.intro (fun _ => And.intro (fun z => absurd z (f_n1 (by omega))) (fun _ => And.intro (Or.inl rfl) ?_)) (fun z => absurd (show (f_b false : Int32) = 0 by decide) z)
          exact tail _ (p + 2) false _ _ _ ((he1.uf (k := 5) (v := nI (p + 2)) (by decide)).uf (k := 7) (v := f_b false) (by decide)) hY2 (fun z => absurd z (by decide)) (fun _ => ⟨A, B, rfl, rfl, A5, B3, rfl, hpf, hA, hB⟩)
        · rw [f_cm_amg hT] at hB
          have hY2 := hY1.wr true
          refine And.intro (fun _ => And.intro (fun _ => And.intro (Or.inr rfl) ?_) (fun z => absurd rfl z)) (fun z => absurd (show (f_b false : Int32) = 0 by decide) z)
          refine tail _ (p + 1) true _ _ _ (he1.uf (k := 7) (v := f_b true) (by decide)) hY2 (fun _ => ?_) (fun z => absurd z (by decide))
          rw [hpf]
          unfold f_ptst
          rw [hA]
          simp only [hB]
      · rw [f_let_amg hT] at hA
        have hY2 := hY.wr true
        refine And.intro (fun _ => And.intro (Or.inr rfl) ?_) (fun z => absurd rfl z)
        show X f_GM 133 [some (.ref 100), some (.int (f_sg T n p)), some (.int (-1)), none, none] [] (f_up M.1 100 7 (f_b true), M.2)
        refine f_run_ok (stop := fun q => Nat.beq q 172) hX 40 _ _ _ _ _ ?_
        refine And.intro (fun z => absurd z (show ¬ (f_b true : Int32) = 0 by decide)) (fun _ => ?_)
        refine And.intro (fun z => absurd z (show ¬ (f_b true : Int32) = 0 by decide)) (fun _ => And.intro (Or.inr rfl) ?_)
        refine tail _ p true _ _ _ ((f_em.rf.uf (k := 7) (v := f_b true) (by decide)).uf (k := 7) (v := f_b true) (by decide)) (hY2.wr true) (fun _ => ?_) (fun z => absurd z (by decide))
        rw [hpf]
        unfold f_ptst
        rw [hA]
    -- out of the brackets again
    have close : ∀ (M3 : fMem) (r : fRs), f_yq (f_zs a) M M3 → f_YS M3 T n r.2.1 a (!r.1) (q + 1) → (r.1 = true → f_YC M3 a (L ++ r.2.2.map f_rst)) → f_pf T n e p C = r → X f_GM 101 [some (.ref 100), some (.int (f_sg T n p)), none, none, none] [] M3 := by
      intro M3 r hq3 hY3 hC3 hr
      rw [hr] at hsp
      have e8 : M3.1 100 8 = nI (q + 1) := hY3.2.2.2.2.2.2.2.1
      have qq := hsp (f_up M3.1 100 8 (nI q), M3.2) (hq3.tr ⟨f_em.rf.uf (k := 8) (by decide), fun k _ => rfl⟩) (hY3.op (by omega)) (fun z => (hC3 z).of rfl)
      rw [show nI q = M3.1 100 8 - 1 by rw [e8]; exact (nI_pred q).symm] at qq
      exact f_run_ok (stop := fun q => false) hX 20 _ _ _ _ _ qq
    -- into the brackets
    have into : f_is T n p 33 = true ∨ f_is T n p 40 = true → X f_GM 25 [some (.ref 100), some (.int (f_sg T n p)), none, none, none] [] M := by
      intro hin
      have hplt : p < n := hin.elim f_is_lt f_is_lt
      have hbr : f_sg T n p = 33 ↔ f_is T n p 33 = true := f_sg_eq hT (c := 33) (by omega)
      rcases Nat.eq_zero_or_pos e with he0 | he0
      · obtain ⟨s1, s2⟩ := h0 he0
        subst s1; subst s2
        have hq : q = 5 := by omega
        subst hq
        have hr : f_pf T n e p C = (false, p, C) := by rw [he0]; exact if_pos hin
        have hY2 : f_YS (f_up (f_up (f_up M.1 100 7 (f_b true)) 100 8 (nI 6)) 100 5 (nI p), M.2) T n p a true 6 := ((hY.wr true).op (q := 6) (by omega)).sp hpn
        have hq2 : f_yq (f_zs a) M (f_up (f_up (f_up M.1 100 7 (f_b true)) 100 8 (nI 6)) 100 5 (nI p), M.2) := ⟨((f_em.rf.uf (k := 7) (v := f_b true) (by decide)).uf (k := 8) (v := nI 6) (by decide)).uf (k := 5) (v := nI p) (by decide), fun k _ => rfl⟩
        refine f_run_ok (stop := fun q => Nat.beq q 73) hX 40 _ _ _ _ _ ?_
        refine And.intro (fun _ => And.intro (Or.inr rfl) (And.intro (fun z => absurd z (show ¬ (f_b true : Int32) = 0 by decide)) (fun _ => ?_))) (fun z => absurd (show M.1 100 8 = 5 from h8) z)
        show X f_GM 73 [some (.ref 100), some (.int (f_sg T n p)), none, none, none] [] (f_up (f_up (f_up M.1 100 7 (f_b true)) 100 8 (M.1 100 8 + 1)) 100 5 (M.1 100 5 + 0), M.2)
        rw [h8, h5, f_add0, show nI 5 + 1 = nI 6 from rfl]
        refine f_run_ok (stop := fun q => Nat.beq q 101) hX 40 _ _ _ _ _ ?_
        refine And.intro (fun _ => ?_) (fun _ => ?_)
        · refine ⟨T, n, p, a, 6, rfl, hY2, ?_⟩
          refine ⟨T, n, p, a, true, 6, [], rfl, hY2, fun z => absurd z (by decide), fun M3 hq3 hY3 _ => ?_⟩
          exact close M3 (false, p, C) (hq2.tr hq3) hY3 (fun z => absurd z Bool.false_ne_true) hr
        · refine ⟨T, n, p, a, 6, rfl, hY2, ?_⟩
          refine ⟨T, n, p, a, true, 6, 41, rfl, rfl, by omega, hY2, fun M3 he3 hY3 => ?_⟩
          rw [if_neg (fun z => absurd z.1 (by decide))] at hY3
          exact close M3 (false, p, C) (hq2.tr (f_yq.of he3)) hY3 (fun z => absurd z Bool.false_ne_true) hr
      · obtain ⟨d, hd⟩ : ∃ d, e = d + 1 := ⟨e - 1, by omega⟩
        obtain ⟨s1, s2⟩ := hs d hd
        subst s1; subst s2; subst hd
        have hq6 : q + 1 ≤ 5 := by omega
        have hY2 : f_YS (f_up (f_up (f_up M.1 100 7 (f_b false)) 100 8 (nI (q + 1))) 100 5 (nI (p + 1)), M.2) T n (p + 1) a false (q + 1) := ((hY.wr false).op (q := q + 1) (by omega)).sp (by omega)
        have hq2 : f_yq (f_zs a) M (f_up (f_up (f_up M.1 100 7 (f_b false)) 100 8 (nI (q + 1))) 100 5 (nI (p + 1)), M.2) := ⟨((f_em.rf.uf (k := 7) (v := f_b false) (by decide)).uf (k := 8) (v := nI (q + 1)) (by decide)).uf (k := 5) (v := nI (p + 1)) (by decide), fun k _ => rfl⟩
        have hC2 : f_YC (f_up (f_up (f_up M.1 100 7 (f_b false)) 100 8 (nI (q + 1))) 100 5 (nI (p + 1)), M.2) a (L ++ C.map f_rst) := hC.of rfl
        refine f_run_ok (stop := fun q => Nat.beq q 73) hX 40 _ _ _ _ _ ?_
        refine And.intro (fun z => ?_) (fun _ => And.intro (Or.inl rfl) (And.intro (fun _ => ?_) (fun z => absurd (show (f_b false : Int32) = 0 by decide) z)))
        · have z : M.1 100 8 = 5 := z
          rw [h8] at z
          have := (nI_eq (b := 5) (by omega) (by omega)).mp z
          omega
        show X f_GM 73 [some (.ref 100), some (.int (f_sg T n p)), none, none, none] [] (f_up (f_up (f_up M.1 100 7 (f_b false)) 100 8 (M.1 100 8 + 1)) 100 5 (M.1 100 5 + 1), M.2)
        rw [h8, h5, ← nI_succ, ← nI_succ]
        generalize hM2 : ((f_up (f_up (f_up M.1 100 7 (f_b false)) 100 8 (nI (q + 1))) 100 5 (nI (p + 1)), M.2) : fMem) = M2 at *
        refine f_run_ok (stop := fun q => Nat.beq q 101) hX 40 _ _ _ _ _ ?_
        refine And.intro (fun z => ?_) (fun z => ?_)
        · have z := hbr.mp z
          have hr : f_pf T n (d + 1) p C = if (f_pf T n d (p + 1) C).1 = true then (true, (f_pf T n d (p + 1) C).2.1, (f_pf T n d (p + 1) C).2.2 ++ [2000]) else f_pf T n d (p + 1) C := by
            show (if f_is T n p 40 = true then _ else if f_is T n p 33 = true then _ else _) = _
            rw [if_neg (by rw [f_is_ne z (d := 40) (by decide)]; decide), if_pos z]
          have hg := f_pf_good T n d (p + 1) C (by omega)
          refine ⟨T, n, p + 1, a, false, q + 1, L, C, rfl, by omega, hY2, fun _ => ⟨by omega, hC2, by omega, fun M3 hq3 hY3 hC3 => ?_⟩, fun z => absurd z (by decide)⟩
          have hY3 : f_YS M3 T n (f_pf T n d (p + 1) C).2.1 a (!(f_pf T n d (p + 1) C).1) (q + 1) := hY3
          have hC3 : (f_pf T n d (p + 1) C).1 = true → f_YC M3 a (L ++ (f_pf T n d (p + 1) C).2.2.map f_rst) := hC3
          generalize f_pf T n d (p + 1) C = r at *
          refine ⟨T, n, r.2.1, a, !r.1, q + 1, L ++ r.2.2.map f_rst, rfl, hY3, fun z => ⟨hC3 (by simpa using z), by rw [List.length_append, List.length_map]; omega⟩, fun M4 hq4 hY4 hC4 => ?_⟩
          by_cases hr1 : r.1 = true
          · rw [if_pos hr1] at hr
            rw [hr1] at hY4 hC4
            refine close M4 _ ((hq2.tr hq3).tr hq4) hY4 (fun _ => ?_) hr
            show f_YC M4 a (L ++ (r.2.2 ++ [2000]).map f_rst)
            rw [List.map_append, ← List.append_assoc]
            exact hC4 rfl
          · rw [if_neg hr1] at hr
            exact close M4 r ((hq2.tr hq3).tr hq4) hY4 (fun y => absurd y hr1) hr
        · have z : ¬ f_is T n p 33 = true := fun y => z (hbr.mpr y)
          have z4 := hin.resolve_left z
          have hr : f_pf T n (d + 1) p C = if (f_pe T n (f_pf T n d) (p + 1) C).1 = true then (if f_is T n (f_pe T n (f_pf T n d) (p + 1) C).2.1 41 = true then (true, (f_pe T n (f_pf T n d) (p + 1) C).2.1 + 1, (f_pe T n (f_pf T n d) (p + 1) C).2.2) else (false, (f_pe T n (f_pf T n d) (p + 1) C).2)) else f_pe T n (f_pf T n d) (p + 1) C := if_pos z4
          refine ⟨T, n, p + 1, a, false, q + 1, L, C, rfl, by omega, hY2, fun _ => ⟨by omega, hC2, by omega, fun M3 hq3 hY3 hC3 => ?_⟩, fun z => absurd z (by decide)⟩
          have hY3 : f_YS M3 T n (f_pe T n (f_pf T n d) (p + 1) C).2.1 a (!(f_pe T n (f_pf T n d) (p + 1) C).1) (q + 1) := hY3
          have hC3 : (f_pe T n (f_pf T n d) (p + 1) C).1 = true → f_YC M3 a (L ++ (f_pe T n (f_pf T n d) (p + 1) C).2.2.map f_rst) := hC3
          generalize f_pe T n (f_pf T n d) (p + 1) C = r at *
          refine ⟨T, n, r.2.1, a, !r.1, q + 1, 41, rfl, rfl, by omega, hY3, fun M4 he4 hY4 => ?_⟩
          have e4 : M4.1 101 = M3.1 101 := he4.1 101 (by decide) (by decide)
          by_cases hr1 : r.1 = true
          · rw [if_pos hr1] at hr
            rw [hr1] at hY4
            by_cases h41 : f_is T n r.2.1 41 = true
            · rw [if_pos h41] at hr
              rw [if_pos ⟨rfl, h41⟩, h41] at hY4
              exact close M4 (true, r.2.1 + 1, r.2.2) ((hq2.tr hq3).tr (f_yq.of he4)) hY4 (fun _ => (hC3 hr1).of e4) hr
            · rw [if_neg h41] at hr
              rw [if_neg (fun y => h41 y.2), Bool.eq_false_iff.mpr h41] at hY4
              exact close M4 _ ((hq2.tr hq3).tr (f_yq.of he4)) hY4 (fun y => absurd y Bool.false_ne_true) hr
          · rw [if_neg hr1] at hr
            have hr1' : r.1 = false := Bool.eq_false_iff.mpr hr1
            rw [hr1', if_neg (fun y => absurd y.1 (by decide))] at hY4
            refine close M4 r ((hq2.tr hq3).tr (f_yq.of he4)) ?_ (fun y => absurd y hr1) hr
            rw [hr1']
            exact hY4
    refine f_run_ok (stop := fun q => Nat.beq q 25 || Nat.beq q 112) hX 40 _ _ _ _ _ ?_
    refine ⟨T, n, p, a, false, q, rfl, hY, ?_⟩
    have b33 : f_sg T n p = 33 ↔ f_is T n p 33 = true := f_sg_eq hT (c := 33) (by omega)
    have b40 : f_sg T n p = 40 ↔ f_is T n p 40 = true := f_sg_eq hT (c := 40) (by omega)
    refine And.intro (fun z => into (Or.inl (b33.mp z))) (fun z => And.intro (fun z2 => into (Or.inr (b40.mp z2))) (fun z2 => ?_))
    have z : ¬ f_is T n p 33 = true := fun y => z (b33.mpr y)
    have z2 : ¬ f_is T n p 40 = true := fun y => z2 (b40.mpr y)
    refine test ?_
    cases e with
    | zero => exact if_neg (fun y => y.elim z z2)
    | succ d =>
      show (if f_is T n p 40 = true then _ else if f_is T n p 33 = true then _ else _) = _
      rw [if_neg z2, if_neg z]
