/-! ===== the reference: of, breaks ===== -/
theorem f_RM.mb {s : fSt} {M : fMem} (hR : f_RM s M) (hS : f_SW s) {b : Nat} (hb : b < 6) : f_MB M s.1.2.2 b (s.1.1 1 b) (s.1.1 2 b) (fun j => s.1.1 3 (b * 4 + j)) := by
  have hyo := hS.1.2.2.2.2.2.2.2.2.2
  obtain ⟨o1, o2, o3, o4, o5, o6, o7⟩ := hyo
  exact ⟨hR.hr, o7, o5, by omega, o2, hb, hR.kd b hb, hS.kd b, hR.vl b hb, hS.vl b, fun j hj => ⟨hR.rw _ (by omega), hS.rw _⟩⟩
theorem f_SW.br0 {s : fSt} (h : f_SW s) : s.1.1 0 2 < 2 ^ s.1.2.2.1 ∧ (s.1.1 0 2).testBit 0 = false := h.1.1.2.2.1
theorem f_RM.my {s : fSt} {M : fMem} {b : Nat} {R : fR} (hR : f_RM s M) (hS : f_SW s) (hb : b < 6) {z : Int32} (hz : z = nI (s.1.1 0 2)) (hk : ∀ M', f_RM s M' → (∀ x, (f_mb s.1 b (s.1.1 0 2)).testBit x = true → M'.1 108 x = nI (f_price s.1.2.2.2.2 s.1.2.2.1 (s.1.1 1 b) (s.1.1 0 2) (2 ^ x))) → R f_GM (some (.int (nI (f_mb s.1 b (s.1.1 0 2))))) M') : S_my f_GM [.ref 100, .int (nI b), .int z] M R :=
  ⟨s.1.2.2, b, s.1.1 0 2, _, _, _, rfl, hR.mb hS hb, rfl, hz, hS.br0.1, hS.br0.2, fun M' he h => hk M' (hR.em he (by decide)) h⟩
set_option maxRecDepth 20000 in
theorem m_y_of : f_Meets 5 (kX12_of S_yB S_my S_cnt S_in S_plc) (f_y2 p_of) := by
  intro G As M R hsp X hX hW
  match As, hsp with
  | [.ref 100, .int b, .int w], ⟨s, hG, hS, hR, hsp⟩ =>
    subst hG
    unfold p_of at hsp
    refine f_run_ok (stop := fun q => Nat.beq q 10) hX 40 _ _ _ _ _ ?_
    refine ⟨s.1.1 0 0, rfl, by have := hS.nb; omega, hR.nb, ?_⟩
    rw [f_ngM]
    cases hb : f_ng b s with
    | false =>
      rw [if_pos hb] at hsp
      exact And.intro (fun _ => hsp M hR) (fun z => absurd rfl z)
    | true =>
      rw [if_neg (by rw [hb]; decide)] at hsp
      obtain ⟨b1, b2, b3⟩ := f_ng_t hS hb
      refine And.intro (fun z => absurd z (by decide)) (fun _ => ?_)
      generalize f_n b = B at *
      subst b3
      have hmb := f_mb_lt hS B (s.1.1 0 2)
      have hp : f_pc (f_mb s.1 B (s.1.1 0 2)) ≤ 17 := f_cnt_le _ 17
      refine f_run_ok (stop := fun q => Nat.beq q 22) hX 40 _ _ _ _ _ ?_
      refine And.intro (v9 7 (by decide)) ?_
      obtain ⟨a1, a2, a3, a4, a5, a6, a7, a8, a9, a10, a11, a12, a13⟩ := hR.my (R := fun G' v M' => X G' 22 [some (.ref 100), some (.int (nI B)), some (.int w), none, none] (f_ans v []) M') hS b2 (z := M.1 101 7) hR.br (fun M1 r1 _ => by
        generalize f_mb s.1 B (s.1.1 0 2) = may at *
        obtain ⟨i1, i2⟩ := r1.kdi b2
        obtain ⟨j1, j2⟩ := r1.vli b2
        refine f_run_ok (stop := fun q => Nat.beq q 29) hX 40 _ _ _ _ _ ?_
        refine ⟨may, rfl, hmb, ?_⟩
        show X f_GM 29 [some (.ref 100), some (.int (nI B)), some (.int w), some (.int (nI may)), some (.int (nI (f_pc may)))] [] M1
        refine f_run_ok (stop := fun q => false) hX 60 _ _ _ _ _ ?_
        refine And.intro (fun h => ?_) (fun h => And.intro (fun h2 => ?_) (fun h2 => And.intro (fun h3 => ?_) (fun h3 => ?_)))
        · rw [if_pos h] at hsp
          exact And.intro i1 (f_fin (hsp M1 r1) (congrArg (fun z => some (Value.int z)) i2.symm) rfl)
        · rw [if_neg h, if_pos h2] at hsp
          exact And.intro j1 (f_fin (hsp M1 r1) (congrArg (fun z => some (Value.int z)) j2.symm) rfl)
        · have h3 : w = 2 := h3
          rw [if_neg h, if_neg h2, if_neg (fun z => z.1 h3), if_pos h3] at hsp
          exact hsp M1 r1
        · have h3 : ¬ w = 2 := h3
          rw [if_neg h, if_neg h2] at hsp
          -- the places, behind ten
          have hpl : w < 10 → f_place may (w - 10) = -1 := fun hw => by
            unfold f_place
            refine if_neg (fun z => ?_)
            have hk := f_nlt z.1 z.2 (by omega)
            have e : w = nI (f_n (w - 10) + 10) := by
              rw [← nI_add, f_nn z.1]
              refine Int32.toBitVec_inj.mp ?_
              show w.toBitVec = w.toBitVec - 10#32 + 10#32
              rw [BitVec.sub_add_cancel]
            rw [e] at hw
            have := (nI_ltI (b := 10) (by omega) (by omega)).mp hw
            omega
          have hsp2 : ∀ M', f_RM s M' → R f_GM (some (.int (f_place may (w - 10)))) M' := by
            by_cases hw : w ≠ 2 ∧ w < 10
            · rw [if_pos hw] at hsp
              rw [hpl hw.2]
              exact hsp
            · rw [if_neg hw, if_neg h3] at hsp
              exact hsp
          unfold f_place at hsp2
          refine And.intro (fun h4 => ?_) (fun h4 => ?_)
          · have h4 : f_b (decide (0 ≤ w - 10 ∧ w - 10 ≤ nI (f_pc may) - 1)) = 0 := h4
            have h4 := of_decide_eq_false (f_b0.mp h4)
            rw [if_neg (fun q => h4 ⟨q.1, (f_lt_pred (by omega) q.1).mpr q.2⟩)] at hsp2
            exact hsp2 M1 r1
          · have h4 : ¬ f_b (decide (0 ≤ w - 10 ∧ w - 10 ≤ nI (f_pc may) - 1)) = 0 := h4
            have h4 := of_decide_eq_true (f_b_nt h4)
            have h5 := (f_lt_pred (by omega) h4.1).mp h4.2
            rw [if_pos ⟨h4.1, h5⟩] at hsp2
            exact ⟨may, f_n (w - 10), rfl, hmb, (f_nn h4.1).symm, f_nlt h4.1 h5 (by omega), hsp2 M1 r1⟩)
      exact ⟨a1, a2, a3, a4, a5, a6, a7, a8, a9, a10, a11, a12, a13⟩
set_option maxRecDepth 20000 in
theorem m_y_breaks : f_Meets 5 (kX12_breaks S_yB S_in S_my S_cnt S_plc) (f_y2 p_breaks) := by
  intro G As M R hsp X hX hW
  match As, hsp with
  | [.ref 100, .int b, .int d], ⟨s, hG, hS, hR, hsp⟩ =>
    subst hG
    unfold p_breaks at hsp
    refine f_run_ok (stop := fun q => Nat.beq q 10) hX 40 _ _ _ _ _ ?_
    refine ⟨s.1.1 0 0, rfl, by have := hS.nb; omega, hR.nb, ?_⟩
    rw [f_ngM]
    cases hb : f_ng b s with
    | false =>
      rw [if_pos hb] at hsp
      exact And.intro (fun _ => hsp M hR) (fun z => absurd rfl z)
    | true =>
      rw [if_neg (by rw [hb]; decide)] at hsp
      obtain ⟨b1, b2, b3⟩ := f_ng_t hS hb
      refine And.intro (fun z => absurd z (by decide)) (fun _ => ?_)
      refine f_run_ok (stop := fun q => Nat.beq q 23) hX 40 _ _ _ _ _ ?_
      refine And.intro (fun h => ?_) (fun h => ?_)
      · rw [if_pos (f_inN h)] at hsp
        exact hsp M hR
      have h := f_inY h
      rw [if_neg (fun z => z.elim (Int32.not_lt.mpr h.1) (Int32.not_lt.mpr h.2))] at hsp
      generalize f_n b = B at *
      subst b3
      have hd0 := h.1
      have hd99 := f_nle (k := 99) hd0 h.2 (by omega)
      have hmb := f_mb_lt hS B (s.1.1 0 2)
      have hp : f_pc (f_mb s.1 B (s.1.1 0 2)) ≤ 17 := f_cnt_le _ 17
      refine f_run_ok (stop := fun q => Nat.beq q 35) hX 40 _ _ _ _ _ ?_
      refine And.intro (v9 7 (by decide)) ?_
      obtain ⟨a1, a2, a3, a4, a5, a6, a7, a8, a9, a10, a11, a12, a13⟩ := hR.my (R := fun G' v M' => X G' 35 [some (.ref 100), some (.int (nI B)), some (.int d), none, none] (f_ans v []) M') hS b2 (z := M.1 101 7) hR.br (fun M1 r1 hpaid => by
        generalize f_mb s.1 B (s.1.1 0 2) = may at *
        have hm0 : may = 0 ↔ f_pc may = 0 := ⟨fun e => by rw [e]; exact f_pc_0, fun e => by
          rcases Nat.eq_zero_or_pos may with z | z
          · exact z
          · have := f_pc_low z hmb; omega⟩
        refine f_run_ok (stop := fun q => Nat.beq q 43) hX 40 _ _ _ _ _ ?_
        refine And.intro (fun h3 => ?_) (fun h3 => ?_)
        · have h3 := (nI_eq (b := 0) (by omega) (by omega)).mp h3
          rw [if_pos (hm0.mp h3)] at hsp
          exact hsp M1 r1
        · have h3 : ¬ may = 0 := fun z => h3 (by rw [z]; rfl)
          have h4 : f_pc may ≠ 0 := fun z => h3 (hm0.mpr z)
          rw [if_neg h4] at hsp
          have ed : d - d / nI (f_pc may) * nI (f_pc may) = nI (f_n d % f_pc may) := by
            have := pk_rem (a := f_n d) (d := f_pc may) (by omega) (by omega) (by omega)
            rw [f_nn hd0] at this
            exact this
          have hm : f_n d % f_pc may < f_pc may := Nat.mod_lt _ (by omega)
          obtain ⟨w1, w2⟩ := f_drw_ok (S := may) (d := d) h4
          have epl : f_nth may 17 0 (f_n d % f_pc may) = f_drw may d := rfl
          refine f_run_ok (stop := fun q => Nat.beq q 55) hX 40 _ _ _ _ _ ?_
          refine ⟨may, rfl, hmb, fun z => h4 ((nI_eq (b := 0) (by omega) (by omega)).mp z), may, f_n d % f_pc may, rfl, hmb, ed, hm, ?_⟩
          rw [epl]
          have hpx := hpaid _ w1
          have r2 := r1.sU (k := 7) (r1.1.n02 (s.1.1 0 2 ||| 2 ^ f_drw may d))
          have r3 := r2.sU (k := 8) (r2.1.nsp (s.1.2.1 + nI (f_price s.1.2.2.2.2 s.1.2.2.1 (s.1.1 1 B) (s.1.1 0 2) (2 ^ f_drw may d))))
          generalize f_drw may d = x at *
          obtain ⟨x1, x2⟩ := f_ix (z := nI x) (n := 17) rfl w2 (by omega)
          show X f_GM 55 [some (.ref 100), some (.int (nI B)), some (.int d), some (.int (nI may)), some (.int (nI x))] [] M1
          refine f_run_ok (stop := fun q => false) hX 60 _ _ _ _ _ ?_
          refine And.intro (v9 7 (by decide)) (And.intro (v9 7 (by decide)) (And.intro (v9 8 (by decide)) (And.intro x1 (And.intro (v9 8 (by decide)) ?_))))
          have e7 : M1.1 101 7 ||| (1 : Int32) <<< (nI x &&& 31) = nI (s.1.1 0 2 ||| 2 ^ x) := by rw [r1.br, n_orbit (by omega)]
          have e8 : M1.1 101 8 + M1.1 108 (nI x).toNatClampNeg = s.1.2.1 + nI (f_price s.1.2.2.2.2 s.1.2.2.1 (s.1.1 1 B) (s.1.1 0 2) (2 ^ x)) := by rw [r1.sp, x2, hpx]
          have r4 : f_RM (((f_su s.1 0 2 (s.1.1 0 2 ||| 2 ^ x)).1, s.1.2.1 + nI (f_price s.1.2.2.2.2 s.1.2.2.1 (s.1.1 1 B) (s.1.1 0 2) (2 ^ x)), s.1.2.2), s.2) (f_up (f_up M1.1 101 7 (M1.1 101 7 ||| (1 : Int32) <<< (nI x &&& 31))) 101 8 (M1.1 101 8 + M1.1 108 (nI x).toNatClampNeg), M1.2) := by
            rw [e7, e8]
            exact r3
          exact hsp _ r4)
      exact ⟨a1, a2, a3, a4, a5, a6, a7, a8, a9, a10, a11, a12, a13⟩
