/-! ===== the reference: costs ===== -/
def f_CSL : List Nat := [103, 104, 105, 106, 107, 108, 1011, 1012, 1017, 1021, 1022]
set_option maxRecDepth 20000 in
theorem m_y_costs : f_Meets 6 (kX12_costs S_yB S_in (S_py 3) S_cu S_partOf) (f_y2 p_costs) := by
  intro G As M R hsp X hX hW
  match As, hsp with
  | [.ref 100, .int b, .int p], ⟨s, hG, hS, hR, hsp⟩ =>
    subst hG
    unfold p_costs at hsp
    have bad : (f_ng b s = false ∨ f_pt1 p = false) → X f_GM 17 [some (.ref 100), some (.int b), some (.int p), none, none, none] [] M := by
      intro h
      rw [if_pos h] at hsp
      exact f_run_ok (stop := fun _ => false) hX 10 _ _ _ _ _ (hsp M hR)
    refine f_run_ok (stop := fun q => Nat.beq q 17 || Nat.beq q 21) hX 60 _ _ _ _ _ ?_
    refine ⟨s.1.1 0 0, rfl, by have := hS.nb; omega, hR.nb, ?_⟩
    rw [f_ngM]
    cases hb : f_ng b s with
    | false => exact And.intro (fun _ => bad (Or.inl hb)) (fun z => absurd rfl z)
    | true =>
      obtain ⟨b1, b2, b3⟩ := f_ng_t hS hb
      refine And.intro (fun z => absurd z (by decide)) (fun _ => ?_)
      refine And.intro (fun hz => ?_) (fun hz => ?_)
      · have hz : f_b (decide (0 ≤ p ∧ p ≤ 1)) = 0 := hz
        rw [← f_ptM] at hz
        exact bad (Or.inr (f_b0.mp hz))
      have hz : ¬ f_b (decide (0 ≤ p ∧ p ≤ 1)) = 0 := hz
      rw [← f_ptM] at hz
      have hp : f_pt1 p = true := f_b_nt hz
      rw [if_neg (by rw [hp, hb]; exact fun z => z.elim (by decide) (by decide))] at hsp
      clear bad
      generalize f_n b = B at *
      subst b3
      have hc1 := hS.c1
      have hc3 := hS.c3
      have hmb : ∀ S, f_mb s.1 B S < 2 ^ 17 := fun S => f_mb_lt hS B S
      have hnew : ∀ T x, (f_mb s.1 B T).testBit x = true → T.testBit x = false ∧ 1 ≤ x := fun T x hx => ⟨(f_may_new hx).1, (f_may_new hx).2.1⟩
      obtain ⟨d1, d2, d3⟩ := f_dpc_b hS B
      have ht := f_tot_b (c := s.1) (b := B)
      -- what is paid, beside the class's
      obtain ⟨N, hN⟩ : ∃ N, max 1 (f_pc (f_mb s.1 B 0)) = N := ⟨_, rfl⟩
      have hN17 : 1 ≤ N ∧ N ≤ 16 := by have := f_mb0_16 (s := s.1) (b := B); omega
      obtain ⟨P, hP⟩ : ∃ P, f_gn f_ew1 (f_mb s.1 B) s.1.2.2.2.1 (fun _ => 0) (f_ndp s.1.2.2.2.2 s.1.2.2.1 (s.1.1 1 B) (f_mb s.1 B)) 3 0 1 0 = P := ⟨_, rfl⟩
      have e1 : P * f_U = (f_dpc s.1 B).2 * 360360 ^ (s.1.2.2.2.1 - 1) := by
        rw [← hP]
        have := f_gn_spent (pr := f_price s.1.2.2.2.2 s.1.2.2.1 (s.1.1 1 B)) hc1 hc3 hmb hnew
        have en : f_ndp s.1.2.2.2.2 s.1.2.2.1 (s.1.1 1 B) (f_mb s.1 B) = fun S => f_price s.1.2.2.2.2 s.1.2.2.1 (s.1.1 1 B) S (f_mb s.1 B S) := funext (fun S => f_ndp_eq hnew S)
        rw [en]
        exact this
      have eU : f_tot (f_mb s.1 B) = f_U * N := by rw [← hN]; rfl
      have hE : 0 < 360360 ^ (s.1.2.2.2.1 - 1) ∧ 360360 ^ (s.1.2.2.2.1 - 1) ≤ f_U := by
        have : ∀ c, c ≤ 3 → 1 ≤ c → 0 < 360360 ^ (c - 1) ∧ 360360 ^ (c - 1) ≤ f_U := by decide +kernel
        exact this _ hc3 hc1
      have hPb : P < 2 ^ 63 := by
        have : P ≤ (f_dpc s.1 B).2 := by
          refine Nat.le_of_mul_le_mul_right (c := f_U) ?_ (by decide)
          rw [e1]
          exact Nat.mul_le_mul_left _ hE.2
        omega
      have e2 : (f_dpc s.1 B).2 * (N * 360360 ^ (s.1.2.2.2.1 - 1)) = P * f_tot (f_mb s.1 B) := by
        rw [eU, ← Nat.mul_assoc P, e1]
        simp only [Nat.mul_assoc, Nat.mul_comm, Nat.mul_left_comm]
      have hv0 : 0 < N * 360360 ^ (s.1.2.2.2.1 - 1) := Nat.mul_pos (by omega) hE.1
      have hv1 : N * 360360 ^ (s.1.2.2.2.1 - 1) < 2 ^ 63 := by
        have h1 : N * 360360 ^ (s.1.2.2.2.1 - 1) ≤ 16 * f_U := Nat.mul_le_mul hN17.2 hE.2
        unfold f_U at h1
        omega
      have hsp : ∀ M', f_RM s M' → R f_GM (some (.long (f_part P (N * 360360 ^ (s.1.2.2.2.1 - 1)) p))) M' := fun M' r => by
        have := hsp M' r
        rw [f_part_cg ht.1 hv0 e2 p] at this
        exact this
      have he0 : f_em f_CSL M (M.1, f_upL (f_upL M.2 100 21 0) 100 22 1) := (f_em.rf.ufL (k := 21) (v := 0) (by decide)).ufL (k := 22) (v := 1) (by decide)
      refine f_run_ok (stop := fun q => Nat.beq q 39) hX 40 _ _ _ _ _ ?_
      refine ⟨s.1.2.2, B, _, _, _, 0, 1, 0, 0, 1, rfl, (hR.mb hS b2).cg (he0.1 101 (by decide) (by decide)), hc3, rfl, rfl, rfl, rfl, rfl, Nat.zero_le _, Nat.pow_pos (by decide), Nat.zero_testBit 0, rfl, rfl, fun M3 he3 m21 m22 => ?_⟩
      have r3 : f_RM s M3 := (hR.em he0 (by decide)).em he3 (by decide)
      have m21 : M3.2 100 21 = lN (0 + f_gn f_ew1 (f_mb s.1 B) s.1.2.2.2.1 (fun _ => 0) (f_ndp s.1.2.2.2.2 s.1.2.2.1 (s.1.1 1 B) (f_mb s.1 B)) 3 0 1 0) := m21
      have m22 : M3.2 100 22 = lN (if 0 = 0 ∧ s.1.2.2.2.1 ≠ 0 ∧ f_mb s.1 B 0 ≠ 0 then f_pc (f_mb s.1 B 0) else 1) := m22
      rw [Nat.zero_add, hP] at m21
      have eN : (if 0 = 0 ∧ s.1.2.2.2.1 ≠ 0 ∧ f_mb s.1 B 0 ≠ 0 then f_pc (f_mb s.1 B 0) else 1) = N := by
        have hz := f_pc_z (hmb 0)
        split
        · rename_i h
          have := fun z => h.2.2 (hz.mp z)
          omega
        · rename_i h
          have : f_mb s.1 B 0 = 0 := by
            rcases Nat.eq_zero_or_pos (f_mb s.1 B 0) with z | z
            · exact z
            · exact absurd ⟨rfl, by omega, by omega⟩ h
          have := hz.mpr this
          omega
      rw [eN] at m22
      have loop : ∀ (t j q : Nat), j + t = s.1.2.2.2.1 → 1 ≤ j → q = N * 360360 ^ (j - 1) → X f_GM 47 [some (.ref 100), some (.int (nI B)), some (.int p), some (.long (lN q)), none, some (.int (nI j))] [] M3 := by
        intro t
        induction t with
        | zero =>
          intro j q hj hj1 hq
          have hj : j = s.1.2.2.2.1 := by omega
          rw [hj] at hq
          have hres := hsp M3 r3
          rw [← hq] at hres
          obtain ⟨y1, y2, y3⟩ := f_pof (p := p) (R := R) (u := P) (v := q) hPb (by omega) (by omega) hres
          rw [← m21] at y1 y3
          refine f_run_ok (stop := fun q => false) hX 40 _ _ _ _ _ ?_
          refine ⟨s.1.2.2, rfl, r3.hr, And.intro (fun _ => ?_) (fun z => absurd (nI_le (by omega) (by omega)) z)⟩
          exact ⟨y1, y2, y3⟩
        | succ t ih =>
          intro j q hj hj1 hq
          have q2 := ih (j + 1) (q * 360360) (by omega) (by omega) (by rw [hq, Nat.mul_assoc, ← Nat.pow_succ, show j + 1 - 1 = (j - 1).succ by omega])
          rw [nI_succ j, ← lN_mul] at q2
          refine f_run_ok (stop := fun q => Nat.beq q 47) hX 40 _ _ _ _ _ ?_
          exact ⟨s.1.2.2, rfl, r3.hr, And.intro (fun z => absurd ((nI_leI (by omega) (by omega)).mp z) (by omega)) (fun _ => q2)⟩
      have q := loop (s.1.2.2.2.1 - 1) 1 N (by omega) (Nat.le_refl _) (by rw [Nat.sub_self, Nat.pow_zero, Nat.mul_one])
      rw [← m22] at q
      exact f_run_ok (stop := fun q => Nat.beq q 47) hX 40 _ _ _ _ _ q
