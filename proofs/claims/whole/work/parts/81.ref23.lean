/-! ===== the reference: orders, chance, who, likeliest ===== -/
set_option maxRecDepth 20000 in
theorem m_y_orders : f_Meets 2 (kX12_orders S_yB S_lfo) (f_y1 p_orders) := by
  intro G As M R hsp X hX hW
  match As, hsp with
  | [.ref 100, .int b], ⟨s, hG, hS, hR, hsp⟩ =>
    subst hG
    unfold p_orders at hsp
    refine f_run_ok (stop := fun q => Nat.beq q 10) hX 40 _ _ _ _ _ ?_
    refine ⟨s.1.1 0 0, rfl, by have := hS.nb; omega, hR.nb, ?_⟩
    rw [f_ngM]
    cases hb : f_ng b s with
    | false =>
      rw [if_pos hb] at hsp
      exact And.intro (fun _ => hsp M hR) (fun z => absurd rfl z)
    | true =>
      rw [if_neg (by rw [hb]; decide)] at hsp
      obtain ⟨b1, b2, b3⟩ := f_ng_t hS hb
      refine And.intro (fun z => absurd z (by decide)) (fun _ => ?_)
      generalize f_n b = B at *
      subst b3
      refine f_run_ok (stop := fun q => Nat.beq q 15) hX 40 _ _ _ _ _ ?_
      obtain ⟨a1, a2, a3, a4, a5, a6, a7, a8, a9, a10, a11, a12, a13, a14, a15, a16, a17⟩ := hR.lfo (R := fun G' v M' => X G' 15 [some (.ref 100), some (.int (nI B))] (f_ans v []) M') hS b2 (fun M1 t r1 h33 _ _ => by
        refine f_run_ok (stop := fun q => false) hX 40 _ _ _ _ _ ?_
        exact f_fin (hsp M1 r1) (congrArg (fun z => some (Value.int z)) h33.symm) rfl)
      exact ⟨a1, a2, a3, a4, a5, a6, a7, a8, a9, a10, a11, a12, a13, a14, a15, a16, a17⟩
theorem f_cpr {a b d : Nat} (h : Nat.gcd a b = 1) (hd : a ∣ d * b) : a ∣ d := Nat.Coprime.dvd_of_dvd_mul_right h hd
theorem f_part_cg {u v u' v' : Nat} (hv : 0 < v) (hv' : 0 < v') (h : u * v' = u' * v) (p : Int32) : f_part u v p = f_part u' v' p := by
  have g0 : 0 < Nat.gcd u v := Nat.gcd_pos_of_pos_right _ hv
  have g1 : 0 < Nat.gcd u' v' := Nat.gcd_pos_of_pos_right _ hv'
  have c0 : Nat.gcd (u / Nat.gcd u v) (v / Nat.gcd u v) = 1 := Nat.coprime_div_gcd_div_gcd g0
  have c1 : Nat.gcd (u' / Nat.gcd u' v') (v' / Nat.gcd u' v') = 1 := Nat.coprime_div_gcd_div_gcd g1
  have eu := Nat.div_mul_cancel (Nat.gcd_dvd_left u v)
  have ev := Nat.div_mul_cancel (Nat.gcd_dvd_right u v)
  have eu' := Nat.div_mul_cancel (Nat.gcd_dvd_left u' v')
  have ev' := Nat.div_mul_cancel (Nat.gcd_dvd_right u' v')
  unfold f_part
  generalize Nat.gcd u v = g at *
  generalize Nat.gcd u' v' = g' at *
  generalize u / g = a at *
  generalize v / g = b at *
  generalize u' / g' = a' at *
  generalize v' / g' = b' at *
  subst eu; subst ev; subst eu'; subst ev'
  have h2 : a * b' = a' * b := by
    refine Nat.eq_of_mul_eq_mul_right (Nat.mul_pos g0 g1) ?_
    calc a * b' * (g * g') = a * g * (b' * g') := by rw [Nat.mul_mul_mul_comm]
      _ = a' * g' * (b * g) := h
      _ = a' * b * (g * g') := by rw [Nat.mul_mul_mul_comm, Nat.mul_comm g' g]
  have d1 : a ∣ a' := f_cpr c0 ⟨b', h2.symm⟩
  have d2 : a' ∣ a := f_cpr c1 ⟨b, h2⟩
  have ea := Nat.dvd_antisymm d1 d2
  have d3 : b ∣ b' := f_cpr (by rw [Nat.gcd_comm]; exact c0) ⟨a', by rw [Nat.mul_comm b', h2, Nat.mul_comm]⟩
  have d4 : b' ∣ b := f_cpr (by rw [Nat.gcd_comm]; exact c1) ⟨a, by rw [Nat.mul_comm b, ← h2, Nat.mul_comm]⟩
  have eb := Nat.dvd_antisymm d3 d4
  split
  · rw [Nat.mul_div_cancel _ g0, Nat.mul_div_cancel _ g1, ea]
  · rw [Nat.mul_div_cancel _ g0, Nat.mul_div_cancel _ g1, eb]
theorem f_alp_pow {c : Nat} (h1 : 1 ≤ c) (h3 : c ≤ 3) : f_alp c = 720720 * 360360 ^ (c - 1) := by
  have : ∀ c, c ≤ 3 → 1 ≤ c → f_alp c = 720720 * 360360 ^ (c - 1) := by decide +kernel
  exact this c h3 h1
theorem f_mb0_16 {s : fCo} {b : Nat} : f_pc (f_mb s b 0) ≤ 16 := by
  have h : ∀ x, (f_mb s b 0).testBit x = true → 1 ≤ x := fun x hx => (f_may_bit hx).1
  have h0 : (f_mb s b 0).testBit 0 = false := by
    cases q : (f_mb s b 0).testBit 0 with
    | false => rfl
    | true => have := h 0 q; omega
  have := f_pc_two (S := f_mb s b 0) (T := 0) (fun x _ => Nat.zero_testBit x) h0 (Nat.zero_testBit 0)
  omega
theorem f_fw_mul {s : fCo} {b : Nat} : 720720 / f_fw s b * f_fw s b = 720720 := by
  have := f_mb0_16 (s := s) (b := b)
  have hf : f_fw s b = max 1 (f_pc (f_mb s b 0)) := rfl
  exact f_d16 (by omega) (by omega)
theorem f_ch_le {s : fSt} {b t : Nat} (hS : f_SW s) (h : t * f_U = f_cwt s.1 b * 360360 ^ (s.1.2.2.2.1 - 1)) : t ≤ f_alp s.1.2.2.2.1 ∧ t * f_tot (f_mb s.1 b) = (f_flw s.1 b).2 * f_alp s.1.2.2.2.1 := by
  have hal := f_alp_pow hS.c1 hS.c3
  have hm := f_fw_mul (s := s.1) (b := b)
  have e : t * f_tot (f_mb s.1 b) = (f_flw s.1 b).2 * f_alp s.1.2.2.2.1 := by
    have ht : f_tot (f_mb s.1 b) = f_U * f_fw s.1 b := rfl
    rw [ht, ← Nat.mul_assoc, h, hal, ← hm]
    unfold f_cwt
    simp only [Nat.mul_assoc, Nat.mul_comm, Nat.mul_left_comm]
  refine ⟨?_, e⟩
  have hl := (f_fol_le (f_mb s.1 b) s.1.2.2.1 s.1.2.2.2.1 (s.1.1 6) (s.1.1 0 5)).2
  have hl : (f_flw s.1 b).2 ≤ f_tot (f_mb s.1 b) := hl
  have h0 := (f_tot_b (c := s.1) (b := b)).1
  refine Nat.le_of_mul_le_mul_right (c := f_tot (f_mb s.1 b)) ?_ h0
  rw [e, Nat.mul_comm]
  exact Nat.mul_le_mul_left _ hl
theorem f_alp_b {c : Nat} (h3 : c ≤ 3) : 0 < f_alp c ∧ f_alp c < 2 ^ 62 := by
  have : ∀ c, c ≤ 3 → 0 < f_alp c ∧ f_alp c < 2 ^ 62 := by decide +kernel
  exact this c h3
set_option maxRecDepth 20000 in
theorem m_y_chance : f_Meets 3 (kX12_chance S_yB S_in S_lfo S_all S_partOf) (f_y2 p_chance) := by
  intro G As M R hsp X hX hW
  match As, hsp with
  | [.ref 100, .int b, .int p], ⟨s, hG, hS, hR, hsp⟩ =>
    subst hG
    unfold p_chance at hsp
    refine f_run_ok (stop := fun q => Nat.beq q 17 || Nat.beq q 21) hX 40 _ _ _ _ _ ?_
    refine ⟨s.1.1 0 0, rfl, by have := hS.nb; omega, hR.nb, ?_⟩
    rw [f_ngM]
    have bad : (f_ng b s = false ∨ f_pt1 p = false) → X f_GM 17 [some (.ref 100), some (.int b), some (.int p)] [] M := by
      intro h
      rw [if_pos h] at hsp
      exact f_run_ok (stop := fun _ => false) hX 10 _ _ _ _ _ (hsp M hR)
    cases hb : f_ng b s with
    | false => exact And.intro (fun _ => bad (Or.inl hb)) (fun z => absurd rfl z)
    | true =>
      obtain ⟨b1, b2, b3⟩ := f_ng_t hS hb
      refine And.intro (fun z => absurd z (by decide)) (fun _ => ?_)
      have pt : f_pt1 p = decide (0 ≤ p ∧ p ≤ 1) := by
        unfold f_pt1
        refine decide_eq_decide.mpr ⟨fun z => ?_, fun z => ?_⟩
        · rcases z with z | z <;> (rw [z]; decide)
        · obtain ⟨P, hPb, rfl⟩ := nI_of (x := p) (Int32.not_lt.mpr z.1)
          have := (nI_leI (b := 1) hPb (by omega)).mp z.2
          have : P = 0 ∨ P = 1 := by omega
          rcases this with rfl | rfl
          · exact Or.inl rfl
          · exact Or.inr rfl
      refine And.intro (fun hz => ?_) (fun hz => ?_)
      · have hz : f_b (decide (0 ≤ p ∧ p ≤ 1)) = 0 := hz
        rw [← pt] at hz
        exact bad (Or.inr (f_b0.mp hz))
      have hz : ¬ f_b (decide (0 ≤ p ∧ p ≤ 1)) = 0 := hz
      rw [← pt] at hz
      have hp : f_pt1 p = true := f_b_nt hz
      rw [if_neg (by rw [hp, hb]; exact fun z => z.elim (by decide) (by decide))] at hsp
      clear bad
      generalize f_n b = B at *
      subst b3
      refine f_run_ok (stop := fun q => Nat.beq q 26) hX 40 _ _ _ _ _ ?_
      obtain ⟨a1, a2, a3, a4, a5, a6, a7, a8, a9, a10, a11, a12, a13, a14, a15, a16, a17⟩ := hR.lfo (R := fun G' v M' => X G' 26 [some (.ref 100), some (.int (nI B)), some (.int p)] (f_ans v []) M') hS b2 (fun M1 t r1 _ h21 ht => by
        obtain ⟨c1, c2⟩ := f_ch_le hS ht
        obtain ⟨d1, d2⟩ := f_alp_b hS.c3
        have hres := hsp M1 r1
        rw [f_part_cg (f_tot_b (c := s.1) (b := B)).1 d1 (c2.symm) p] at hres
        refine f_run_ok (stop := fun q => Nat.beq q 34) hX 40 _ _ _ _ _ ?_
        refine ⟨s.1.2.2, rfl, r1.hr, hS.c3, ?_⟩
        show X f_GM 34 [some (.ref 100), some (.int (nI B)), some (.int p)] [.long (lN (f_alp s.1.2.2.2.1)), .long (M1.2 100 21)] M1
        rw [h21]
        obtain ⟨y1, y2, y3⟩ := f_pof (p := p) (R := R) (u := t) (v := f_alp s.1.2.2.2.1) (by omega) d1 (by omega) hres
        refine f_run_ok (stop := fun q => false) hX 40 _ _ _ _ _ ?_
        exact ⟨y1, y2, y3⟩)
      exact ⟨a1, a2, a3, a4, a5, a6, a7, a8, a9, a10, a11, a12, a13, a14, a15, a16, a17⟩
set_option maxRecDepth 20000 in
theorem m_y_who : f_Meets 3 (kX12_who S_lfo) (f_y0 p_who) := by
  intro G As M R hsp X hX hW
  match As, hsp with
  | [.ref 100], ⟨s, hG, hS, hR, hsp⟩ =>
    subst hG
    unfold p_who at hsp
    have hnb := hS.nb
    generalize hP : (fun b => decide (0 < (f_flw s.1 b).1)) = P at hsp
    have hPx : ∀ b, P b = decide (0 < (f_flw s.1 b).1) := fun b => by rw [← hP]
    have loop : ∀ (t j : Nat) (M1 : fMem), j + t = s.1.1 0 0 → f_RM s M1 → X f_GM 4 [some (.ref 100), some (.int (nI (f_bits j P))), some (.int (nI j))] [] M1 := by
      intro t
      induction t with
      | zero =>
        intro j M1 hj r1
        refine f_run_ok (stop := fun q => false) hX 40 _ _ _ _ _ ?_
        refine And.intro (v9 0 (by decide)) (And.intro (fun h => ?_) (fun h => ?_))
        · exact f_fin (hsp M1 r1) (by rw [show j = s.1.1 0 0 by omega]; rfl) rfl
        · have h : ¬ M1.1 101 0 ≤ nI j := h
          rw [r1.nb] at h
          exact absurd (nI_le (by omega) (by omega)) h
      | succ t ih =>
        intro j M1 hj r1
        refine f_run_ok (stop := fun q => Nat.beq q 19) hX 40 _ _ _ _ _ ?_
        refine And.intro (v9 0 (by decide)) (And.intro (fun h => ?_) (fun _ => ?_))
        · have h : M1.1 101 0 ≤ nI j := h
          rw [r1.nb] at h
          exact absurd ((nI_leI (by omega) (by omega)).mp h) (by omega)
        · obtain ⟨a1, a2, a3, a4, a5, a6, a7, a8, a9, a10, a11, a12, a13, a14, a15, a16, a17⟩ := r1.lfo (R := fun G' v M' => X G' 19 [some (.ref 100), some (.int (nI (f_bits j P))), some (.int (nI j))] (f_ans v []) M') hS (b := j) (by omega) (fun M3 t3 r3 h33 _ _ => by
            have hfl := (f_fol_le (f_mb s.1 j) s.1.2.2.1 s.1.2.2.2.1 (s.1.1 6) (s.1.1 0 5)).1
            have hfl : (f_flw s.1 j).1 ≤ 4913 := hfl
            have q := ih (j + 1) M3 (by omega) r3
            refine f_run_ok (stop := fun q => Nat.beq q 4) hX 40 _ _ _ _ _ ?_
            refine And.intro (fun h => ?_) (fun h => ?_)
            · have h : M3.1 100 33 ≤ 0 := h
              rw [h33] at h
              have h := (f_pos_nI (by omega)).mp h
              rw [f_bits_no P j (by rw [hPx, h]; rfl), nI_succ] at q
              have e : nI (f_bits j P) ||| 0 = nI (f_bits j P) := by rw [show (0 : Int32) = nI 0 from rfl, fa_or, Nat.or_zero]
              rw [← e] at q
              exact q
            · have h : ¬ M3.1 100 33 ≤ 0 := h
              rw [h33] at h
              have h : ¬ (f_flw s.1 j).1 = 0 := fun z => h ((f_pos_nI (by omega)).mpr z)
              rw [f_bits_or P j (by rw [hPx]; exact decide_eq_true (by omega)), nI_succ, ← n_orbit (by omega)] at q
              exact q)
          exact ⟨a1, a2, a3, a4, a5, a6, a7, a8, a9, a10, a11, a12, a13, a14, a15, a16, a17⟩
    refine f_run_ok (stop := fun q => Nat.beq q 4) hX 40 _ _ _ _ _ ?_
    exact loop (s.1.1 0 0) 0 M (by omega) hR
/-- the reference's sum, whole where the class's is -/
theorem f_t_lt {s : fSt} {a b t u : Nat} (ht : t * f_U = a * 360360 ^ (s.1.2.2.2.1 - 1)) (hu : u * f_U = b * 360360 ^ (s.1.2.2.2.1 - 1)) : t ≤ u ↔ a ≤ b := by
  have hU : 0 < f_U := by decide
  have hE : 0 < 360360 ^ (s.1.2.2.2.1 - 1) := Nat.pow_pos (by decide)
  constructor
  · intro h
    refine Nat.le_of_mul_le_mul_right (c := 360360 ^ (s.1.2.2.2.1 - 1)) ?_ hE
    rw [← ht, ← hu]
    exact Nat.mul_le_mul_right _ h
  · intro h
    refine Nat.le_of_mul_le_mul_right (c := f_U) ?_ hU
    rw [ht, hu]
    exact Nat.mul_le_mul_right _ h
set_option maxRecDepth 20000 in
theorem m_y_likeliest : f_Meets 5 (kX12_likeliest S_lfo) (f_y0 p_likeliest) := by
  intro G As M R hsp X hX hW
  match As, hsp with
  | [.ref 100], ⟨s, hG, hS, hR, hsp⟩ =>
    subst hG
    unfold p_likeliest at hsp
    have hnb := hS.nb
    obtain ⟨d1, d2⟩ := f_alp_b hS.c3
    have loop : ∀ (t j m : Nat) (M1 : fMem), j + t = s.1.1 0 0 → f_RM s M1 → m ≤ f_alp s.1.2.2.2.1 → m * f_U = (f_lkl (f_cwt s.1) j).1 * 360360 ^ (s.1.2.2.2.1 - 1) → X f_GM 8 [some (.ref 100), some (.int (f_lkl (f_cwt s.1) j).2), some (.long (lN m)), none, some (.int (nI j))] [] M1 := by
      intro t
      induction t with
      | zero =>
        intro j m M1 hj r1 hm hmU
        refine f_run_ok (stop := fun q => false) hX 40 _ _ _ _ _ ?_
        refine And.intro (v9 0 (by decide)) (And.intro (fun h => ?_) (fun h => ?_))
        · exact f_fin (hsp M1 r1) (by rw [show j = s.1.1 0 0 by omega]; rfl) rfl
        · have h : ¬ M1.1 101 0 ≤ nI j := h
          rw [r1.nb] at h
          exact absurd (nI_le (by omega) (by omega)) h
      | succ t ih =>
        intro j m M1 hj r1 hm hmU
        refine f_run_ok (stop := fun q => Nat.beq q 25) hX 40 _ _ _ _ _ ?_
        refine And.intro (v9 0 (by decide)) (And.intro (fun h => ?_) (fun _ => ?_))
        · have h : M1.1 101 0 ≤ nI j := h
          rw [r1.nb] at h
          exact absurd ((nI_leI (by omega) (by omega)).mp h) (by omega)
        · obtain ⟨a1, a2, a3, a4, a5, a6, a7, a8, a9, a10, a11, a12, a13, a14, a15, a16, a17⟩ := r1.lfo (R := fun G' v M' => X G' 25 [some (.ref 100), some (.int (f_lkl (f_cwt s.1) j).2), some (.long (lN m)), none, some (.int (nI j))] (f_ans v []) M') hS (b := j) (by omega) (fun M3 t3 r3 _ h21 ht => by
            obtain ⟨c1, c2⟩ := f_ch_le hS ht
            have est : f_lkl (f_cwt s.1) (j + 1) = if (f_lkl (f_cwt s.1) j).1 < f_cwt s.1 j then (f_cwt s.1 j, nI j) else f_lkl (f_cwt s.1) j := rfl
            have hlt := f_t_lt ht hmU
            refine f_run_ok (stop := fun q => Nat.beq q 8) hX 60 _ _ _ _ _ ?_
            refine And.intro (fun h => ?_) (fun h => ?_)
            · have h : lg_cmp (M3.2 100 21) (lN m) ≤ 0 := h
              refine And.intro (fun _ => ?_) (fun z => absurd h z)
              rw [h21] at h
              have h := (f_lcmp2 (by omega) (by omega)).mp h
              have q := ih (j + 1) m M3 (by omega) r3 hm (by rw [est, if_neg (by have := hlt.mp h; omega)]; exact hmU)
              rw [est, if_neg (by have := hlt.mp h; omega), nI_succ] at q
              exact q
            · have h : ¬ lg_cmp (M3.2 100 21) (lN m) ≤ 0 := h
              refine And.intro (fun z => absurd z h) (fun _ => ?_)
              rw [h21] at h
              have h : ¬ t3 ≤ m := fun z => h ((f_lcmp2 (by omega) (by omega)).mpr z)
              have h2 : ¬ f_cwt s.1 j ≤ (f_lkl (f_cwt s.1) j).1 := fun z => h (hlt.mpr z)
              have q := ih (j + 1) t3 M3 (by omega) r3 c1 (by rw [est, if_pos (by omega)]; exact ht)
              rw [est, if_pos (by omega), nI_succ, ← h21] at q
              exact q)
          exact ⟨a1, a2, a3, a4, a5, a6, a7, a8, a9, a10, a11, a12, a13, a14, a15, a16, a17⟩
    refine f_run_ok (stop := fun q => Nat.beq q 8) hX 40 _ _ _ _ _ ?_
    exact loop (s.1.1 0 0) 0 0 M (by omega) hR (Nat.zero_le _) (by show 0 * _ = 0 * _; rw [Nat.zero_mul, Nat.zero_mul])
