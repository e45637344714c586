/-! ===== public methods: breaks, shape, until, hidden, box, triangles, drawn, none, stair ===== -/
theorem f_drw_ok {S : Nat} {d : Int32} (h : f_pc S ≠ 0) : S.testBit (f_drw S d) = true ∧ f_drw S d < 17 := f_nth_pc (Nat.mod_lt _ (by omega))
set_option maxRecDepth 20000 in
theorem m_x_breaks : f_Meets 6 (kX11_breaks S_isB S_may S_bitCount S_placeOf S_pr) (f_x2 p_breaks) := by
  intro G As M R hsp X hX hW
  match As, hsp with
  | [.ref 0, .int b, .int d], ⟨s, hG, hS, hR, hsp⟩ =>
    subst hG
    unfold p_breaks at hsp
    have bad : ¬ (f_ng b s = false) → (d < 0 ∨ 99 < d) → X f_GX 20 [some (.ref 0), some (.int b), some (.int d), none, none, none] [] M := by
      intro h h2
      rw [if_neg h, if_pos h2] at hsp
      exact f_run_ok (stop := fun _ => false) hX 10 _ _ _ _ _ (hsp M hR)
    refine f_run_ok (stop := fun q => Nat.beq q 20 || Nat.beq q 23) hX 40 _ _ _ _ _ ?_
    refine ⟨rfl, ?_⟩
    rw [f_ng_b hR]
    cases hb : f_ng b s with
    | false =>
      rw [if_pos hb] at hsp
      exact And.intro (fun _ => hsp M hR) (fun z => absurd rfl z)
    | true =>
      have hb' : ¬ f_ng b s = false := by rw [hb]; decide
      obtain ⟨b1, b2, b3⟩ := f_ng_t hS hb
      refine And.intro (fun z => absurd z (by decide)) (fun _ => ?_)
      refine And.intro (fun h => bad hb' (Or.inl h)) (fun h => ?_)
      refine And.intro (fun h2 => ?_) (fun h2 => bad hb' (Or.inr (Int32.not_le.mp h2)))
      have hd : ¬ (d < 0 ∨ 99 < d) := fun z => z.elim h (fun z => Int32.not_lt.mpr h2 z)
      rw [if_neg hb', if_neg hd] at hsp
      have hmb := f_mb_lt hS (f_n b) (s.1.1 0 2)
      have hd0 : 0 ≤ d := Int32.not_lt.mp h
      have hd99 := f_nle (k := 99) hd0 h2 (by omega)
      have hp : f_pc (f_mb s.1 (f_n b) (s.1.1 0 2)) ≤ 17 := f_cnt_le _ 17
      refine f_run_ok (stop := fun q => Nat.beq q 38) hX 40 _ _ _ _ _ ?_
      obtain ⟨a1, a2, a3, a4, a5, a6, a7, a8, a9, a10, a11, a12, a13, a14⟩ := hR.may (R := fun G' v M' => X G' 38 [some (.ref 0), some (.int b), some (.int d), none, none, none] (f_ans v []) M') hS hb (fun M1 he1 r1 => by
        refine f_run_ok (stop := fun q => Nat.beq q 53) hX 40 _ _ _ _ _ ?_
        refine ⟨_, rfl, hmb, ?_⟩
        refine And.intro (fun h3 => ?_) (fun h3 => ?_)
        · have h3 : nI (f_pc (f_mb s.1 (f_n b) (s.1.1 0 2))) = 0 := h3
          have h3 := (nI_eq (b := 0) (by omega) (by omega)).mp h3
          rw [if_pos h3] at hsp
          exact hsp M1 r1
        · have h3 : ¬ nI (f_pc (f_mb s.1 (f_n b) (s.1.1 0 2))) = 0 := h3
          have h4 : f_pc (f_mb s.1 (f_n b) (s.1.1 0 2)) ≠ 0 := fun z => h3 (by rw [z]; rfl)
          rw [if_neg h4] at hsp
          generalize f_mb s.1 (f_n b) (s.1.1 0 2) = may at *
          have ed : d - d / nI (f_pc may) * nI (f_pc may) = nI (f_n d % f_pc may) := by
            have := pk_rem (a := f_n d) (d := f_pc may) (by omega) (by omega) (by omega)
            rw [f_nn hd0] at this
            exact this
          have hm : f_n d % f_pc may < f_pc may := Nat.mod_lt _ (by omega)
          have epl : f_plc (nI may) (d - d / nI (f_pc may) * nI (f_pc may)) 17 0 0 = nI (f_drw may d) := by
            rw [ed, f_plc_eq hmb]
            unfold f_place
            rw [if_pos ⟨nI_pos' (by omega), nI_lt hm (by omega)⟩, f_n_nI (by omega)]
            rfl
          obtain ⟨w1, w2⟩ := f_drw_ok (S := may) (d := d) h4
          have hq : 2 ^ f_drw may d < 2 ^ 17 := Nat.pow_lt_pow_right (by decide) w2
          have esh : (1 : Int32) <<< (f_plc (nI may) (d - d / nI (f_pc may) * nI (f_pc may)) 17 0 0 &&& 31) = nI (2 ^ f_drw may d) := by rw [epl, n_shl (by omega)]
          refine f_run_ok (stop := fun q => Nat.beq q 90) hX 40 _ _ _ _ _ ?_
          refine ⟨h3, s.1.2.2.2.2, s.1.2.2.1, f_n b, _, _, _, s.1.1 0 2, 2 ^ f_drw may d, rfl, b3.symm, r1.br, hS.br, esh, hq, r1.yh hS, r1.bkr hS b2, fun M2 he2 => ?_⟩
          have r2 := r1.scr he2 (by decide)
          have q1 := r2.sU (k := 1) (i := 7) (w := s.1.2.1 + nI (f_price s.1.2.2.2.2 s.1.2.2.1 (s.1.1 1 (f_n b)) (s.1.1 0 2) (2 ^ f_drw may d))) (by decide) (by decide) (r2.1.ssp _)
          have q2 := q1.sU (k := 1) (i := 6) (w := nI (s.1.1 0 2 ||| 2 ^ f_drw may d)) (by decide) (by decide) (q1.1.s02 _)
          have esp : M1.1 1 7 = s.1.2.1 := r1.sp
          show X f_GX 90 [some (.ref 0), some (.int b), some (.int d), some (.int (nI may)), some (.int (nI (f_pc may))), some (.int (f_plc (nI may) (d - d / nI (f_pc may) * nI (f_pc may)) 17 0 0))] [.int (nI (f_price s.1.2.2.2.2 s.1.2.2.1 (s.1.1 1 (f_n b)) (s.1.1 0 2) (2 ^ f_drw may d))), .int (M1.1 1 7), .ref 1] M2
          rw [epl, esp]
          refine f_run_ok (stop := fun q => false) hX 40 _ _ _ _ _ ?_
          have e6 : M2.1 1 6 ||| (1 : Int32) <<< (nI (f_drw may d) &&& 31) = nI (s.1.1 0 2 ||| 2 ^ f_drw may d) := by rw [r2.br, n_orbit (by omega)]
          rw [← e6] at q2
          exact hsp _ q2)
      exact ⟨a1, a2, a3, a4, a5, a6, a7, a8, a9, a10, a11, a12, a13, a14⟩
set_option maxRecDepth 20000 in
theorem m_x_shape : f_Meets 2 (kX11_shape S_lay S_clo S_sqr S_blu S_lgs S_lat) (f_x1 p_shape) := by
  intro G As M R hsp X hX hW
  match As, hsp with
  | [.ref 0, .int w], ⟨s, hG, hS, hR, hsp⟩ =>
    subst hG
    unfold p_shape at hsp
    have hL2 := hS.L2
    refine f_run_ok (stop := fun q => Nat.beq q 24) hX 40 _ _ _ _ _ ?_
    refine ⟨s.1.1 0 2, s.1.2.2.1, rfl, hR.br, hS.br, hR.ln, by omega, hS.L17, fun M1 he1 hsh => ?_⟩
    have r1 := hR.scr he1 (by decide)
    have hne := f_shp_ne (L := s.1.2.2.1) (br := s.1.1 0 2) (by omega)
    generalize f_shp s.1.2.2.1 (s.1.1 0 2) = l at *
    have fin : ∀ (c : Bool), R f_GX (some (Value.int (f_b c))) M1 → (f_b c = 0 → R f_GX (some (Value.int 0)) M1) ∧ (¬ f_b c = 0 → R f_GX (some (Value.int 1)) M1) := by
      intro c h
      cases c with
      | false => exact ⟨fun _ => h, fun z => absurd rfl z⟩
      | true => exact ⟨fun z => absurd z (by decide), fun _ => h⟩
    refine f_run_ok (stop := fun q => false) hX 40 _ _ _ _ _ ?_
    refine And.intro (fun h => ?_) (fun h => And.intro (fun h2 => ?_) (fun h2 => And.intro (fun h3 => ?_) (fun h3 => And.intro (fun h4 => ?_) (fun h4 => And.intro (fun h5 => ?_) (fun h5 => ?_)))))
    · rw [if_pos h] at hsp
      obtain ⟨f1, f2⟩ := fin _ (hsp M1 r1)
      exact ⟨l, _, rfl, hsh, And.intro f1 f2⟩
    · rw [if_neg h, if_pos h2] at hsp
      obtain ⟨f1, f2⟩ := fin _ (hsp M1 r1)
      exact ⟨l, _, rfl, hsh, And.intro f1 f2⟩
    · rw [if_neg h, if_neg h2, if_pos h3] at hsp
      obtain ⟨f1, f2⟩ := fin _ (hsp M1 r1)
      exact ⟨l, _, rfl, hsh, And.intro f1 f2⟩
    · rw [if_neg h, if_neg h2, if_neg h3, if_pos h4] at hsp
      exact ⟨l, _, rfl, hsh, hne, hsp M1 r1⟩
    · rw [if_neg h, if_neg h2, if_neg h3, if_neg h4, if_pos h5] at hsp
      exact ⟨l, _, 0, rfl, rfl, by omega, hsh, hsp M1 r1⟩
    · rw [if_neg h, if_neg h2, if_neg h3, if_neg h4, if_neg h5] at hsp
      exact hsp M1 r1
set_option maxRecDepth 20000 in
theorem m_x_until : f_Meets 3 (kX11_until S_isP S_partOf) (f_x2 p_until) := by
  intro G As M R hsp X hX hW
  match As, hsp with
  | [.ref 0, .int m, .int p], ⟨s, hG, hS, hR, hsp⟩ =>
    subst hG
    unfold p_until at hsp
    have hL17 := hS.L17
    have bad : (m < 1 ∨ 16 < m ∨ f_pt1 p = false) → X f_GX 18 [some (.ref 0), some (.int m), some (.int p)] [] M := by
      intro h
      rw [if_pos h] at hsp
      exact f_run_ok (stop := fun _ => false) hX 10 _ _ _ _ _ (hsp M hR)
    refine f_run_ok (stop := fun q => Nat.beq q 18 || Nat.beq q 22) hX 40 _ _ _ _ _ ?_
    refine And.intro (fun h => bad (Or.inl h)) (fun h => ?_)
    refine And.intro (fun h2 => bad (Or.inr (Or.inl h2))) (fun h2 => ?_)
    refine And.intro (fun hz => bad (Or.inr (Or.inr ((f_b0 (c := f_pt1 p)).mp hz)))) (fun hz => ?_)
    have hp : f_pt1 p = true := f_b_nt (c := f_pt1 p) hz
    rw [if_neg (by rw [hp]; exact fun z => z.elim h (fun z => z.elim h2 (by decide)))] at hsp
    have hm1 : (1 : Int32) ≤ m := Int32.not_lt.mp h
    have hm0 : 0 ≤ m := Int32.le_trans (by decide) hm1
    have hm16 := f_nle (k := 16) hm0 (Int32.not_lt.mp h2) (by omega)
    refine f_run_ok (stop := fun q => false) hX 40 _ _ _ _ _ ?_
    refine And.intro (fun h3 => ?_) (fun h3 => ?_)
    · have h3 : M.1 5 0 ≤ m := h3
      rw [hR.ln, ← f_nn hm0] at h3
      have h3 := (nI_leI (by omega) (by omega)).mp h3
      rw [if_neg (by omega)] at hsp
      exact hsp M hR
    · have h3 : ¬ M.1 5 0 ≤ m := h3
      rw [hR.ln, ← f_nn hm0] at h3
      have h3 : ¬ s.1.2.2.1 ≤ f_n m := fun z => h3 (nI_le z (by omega))
      rw [if_pos (by omega)] at hsp
      have e1 : (2 : Int64) * (M.1 5 0).toInt64 = lN (2 * s.1.2.2.1) := by
        rw [hR.ln, f_wide (by omega)]
        exact (Int64.ofNat_mul 2 _).symm
      have e2 : m.toInt64 + 1 = lN (f_n m + 1) := by
        have := f_wide (n := f_n m) (by omega)
        rw [f_nn hm0] at this
        rw [this]
        exact (Int64.ofNat_add _ 1).symm
      obtain ⟨y1, y2, y3⟩ := f_pof (p := p) (R := R) (u := 2 * s.1.2.2.1) (v := f_n m + 1) (by omega) (by omega) (by omega) (hsp M hR)
      rw [← e1, ← e2] at *
      exact ⟨y1, y2, y3⟩
theorem f_pow_lt {n k : Nat} (hn : n ≤ 10) (hk : k ≤ 6) : n ^ k < 2 ^ 31 := Nat.lt_of_le_of_lt (Nat.pow_le_pow_left hn k) (Nat.lt_of_le_of_lt (Nat.pow_le_pow_right (by decide) hk) (by decide))
theorem f_onto_le : ∀ (k u : Nat), u ≤ 17 → f_onto k u ≤ 34 ^ k := by
  intro k
  induction k with
  | zero => intro u _; show (if u = 0 then 1 else 0) ≤ 1; split <;> omega
  | succ k ih =>
    intro u hu
    show (if u = 0 then 0 else u * (f_onto k u + f_onto k (u - 1))) ≤ 34 ^ k * 34
    split
    · exact Nat.zero_le _
    · have h1 := ih u hu
      have h2 := ih (u - 1) (by omega)
      have h3 : u * (f_onto k u + f_onto k (u - 1)) ≤ 17 * (34 ^ k + 34 ^ k) := Nat.mul_le_mul hu (by omega)
      omega
theorem f_cvg_lt {n a k : Nat} (hn : n ≤ 10) (hk : k ≤ 6) : f_cvg n a k < 2 ^ 63 := by
  have h1 := f_sm_le (f := fun s => if s ≠ 0 ∧ f_pc s ≤ k ∧ f_cvs n a s = true then f_onto k (f_pc s) else 0) (b := 34 ^ 6) (2 ^ n) (fun x _ => by
    show (if _ then f_onto k (f_pc x) else 0) ≤ 34 ^ 6
    split
    · exact Nat.le_trans (f_onto_le k _ (f_cnt_le _ 17)) (Nat.pow_le_pow_right (by decide) hk)
    · exact Nat.zero_le _)
  have h2 : 2 ^ n * 34 ^ 6 ≤ 2 ^ 10 * 34 ^ 6 := Nat.mul_le_mul_right _ (Nat.pow_le_pow_right (by decide) hn)
  have h3 : f_cvg n a k ≤ 2 ^ n * 34 ^ 6 := h1
  omega
set_option maxRecDepth 20000 in
theorem m_x_hidden : f_Meets 8 (kX11_hidden S_isP S_cvg S_partOf) (f_x4 p_hidden) := by
  intro G As M R hsp X hX hW
  match As, hsp with
  | [.ref 0, .int n, .int a, .int k, .int p], ⟨s, hG, hS, hR, hsp⟩ =>
    subst hG
    unfold p_hidden at hsp
    have bad : (n < 3 ∨ 10 < n ∨ a < 1 ∨ n < a ∨ k < 1 ∨ 6 < k ∨ f_pt1 p = false) → X f_GX 40 [some (.ref 0), some (.int n), some (.int a), some (.int k), some (.int p), none, none, none] [] M := by
      intro h
      rw [if_pos h] at hsp
      exact f_run_ok (stop := fun _ => false) hX 10 _ _ _ _ _ (hsp M hR)
    refine f_run_ok (stop := fun q => Nat.beq q 40 || Nat.beq q 44) hX 40 _ _ _ _ _ ?_
    refine And.intro (fun h => bad (Or.inl h)) (fun h1 => ?_)
    refine And.intro (fun h => bad (Or.inr (Or.inl h))) (fun h2 => ?_)
    refine And.intro (fun h => bad (Or.inr (Or.inr (Or.inl h)))) (fun h3 => ?_)
    refine And.intro (fun h => bad (Or.inr (Or.inr (Or.inr (Or.inl h))))) (fun h4 => ?_)
    refine And.intro (fun h => bad (Or.inr (Or.inr (Or.inr (Or.inr (Or.inl h)))))) (fun h5 => ?_)
    refine And.intro (fun h => bad (Or.inr (Or.inr (Or.inr (Or.inr (Or.inr (Or.inl h))))))) (fun h6 => ?_)
    refine And.intro (fun hz => bad (Or.inr (Or.inr (Or.inr (Or.inr (Or.inr (Or.inr ((f_b0 (c := f_pt1 p)).mp hz)))))))) (fun hz => ?_)
    have hp : f_pt1 p = true := f_b_nt (c := f_pt1 p) hz
    rw [if_neg (by rw [hp]; exact fun z => z.elim h1 (fun z => z.elim h2 (fun z => z.elim h3 (fun z => z.elim h4 (fun z => z.elim h5 (fun z => z.elim h6 (by decide)))))))] at hsp
    clear bad hz
    obtain ⟨N, hNb, rfl⟩ := nI_of (x := n) (fun z => h1 (Int32.lt_trans z (by decide)))
    obtain ⟨A, hAb, rfl⟩ := nI_of (x := a) (fun z => h3 (Int32.lt_trans z (by decide)))
    obtain ⟨K, hKb, rfl⟩ := nI_of (x := k) (fun z => h5 (Int32.lt_trans z (by decide)))
    have n3 := (nI_leI (a := 3) (by omega) hNb).mp (Int32.not_lt.mp h1)
    have n10 := (nI_leI (b := 10) hNb (by omega)).mp (Int32.not_lt.mp h2)
    have a1 := (nI_leI (a := 1) (by omega) hAb).mp (Int32.not_lt.mp h3)
    have a2 := (nI_leI hAb hNb).mp (Int32.not_lt.mp h4)
    have k1 := (nI_leI (a := 1) (by omega) hKb).mp (Int32.not_lt.mp h5)
    have k6 := (nI_leI (b := 6) hKb (by omega)).mp (Int32.not_lt.mp h6)
    rw [f_n_nI hNb, f_n_nI hAb, f_n_nI hKb] at hsp
    have last : X f_GX 69 [some (.ref 0), some (.int (nI N)), some (.int (nI A)), some (.int (nI K)), some (.int p), some (.long (lN (N ^ K))), none, some (.int (nI K))] [] M := by
      refine f_run_ok (stop := fun q => Nat.beq q 79) hX 40 _ _ _ _ _ ?_
      refine ⟨N, A, K, rfl, rfl, rfl, rfl, by omega, n10, a1, by omega, k6, fun M1 he1 => ?_⟩
      have r1 := hR.scr he1 (fun c hc => absurd hc (by simp))
      refine f_run_ok (stop := fun q => false) hX 40 _ _ _ _ _ ?_
      have hpw := f_pow_lt (n := N) (k := K) (by omega) k6
      obtain ⟨y1, y2, y3⟩ := f_pof (p := p) (R := R) (u := f_cvg N A K) (v := N ^ K) (f_cvg_lt n10 k6) (Nat.pow_pos (by omega)) (by omega) (hsp M1 r1)
      exact ⟨y1, y2, y3⟩
    have loop : ∀ t j, j + t = K → X f_GX 50 [some (.ref 0), some (.int (nI N)), some (.int (nI A)), some (.int (nI K)), some (.int p), some (.long (lN (N ^ j))), none, some (.int (nI j))] [] M := by
      intro t
      induction t with
      | zero =>
        intro j hj
        refine f_run_ok (stop := fun q => Nat.beq q 69) hX 40 _ _ _ _ _ ?_
        refine And.intro (fun h => ?_) (fun h => ?_)
        · have hj : j = K := by omega
          subst hj
          exact last
        · exact absurd (nI_le (by omega) (by omega)) h
      | succ t ih =>
        intro j hj
        refine f_run_ok (stop := fun q => Nat.beq q 69 || Nat.beq q 50) hX 40 _ _ _ _ _ ?_
        refine And.intro (fun h => ?_) (fun h => ?_)
        · exact absurd ((nI_leI (by omega) (by omega)).mp h) (by omega)
        · have q := ih (j + 1) (by omega)
          have e : lN (N ^ (j + 1)) = lN (N ^ j) * (nI N).toInt64 := by
            rw [f_wide (by omega), Nat.pow_succ]
            exact Int64.ofNat_mul _ _
          rw [e, nI_succ j] at q
          exact q
    refine f_run_ok (stop := fun q => Nat.beq q 50) hX 40 _ _ _ _ _ ?_
    exact loop K 0 (by omega)
set_option maxRecDepth 20000 in
theorem m_x_box : f_Meets 2 (kX11_box S_put) (f_x1 p_box) := by
  intro G As M R hsp X hX hW
  match As, hsp with
  | [.ref 0, .int l], ⟨s, hG, hS, hR, hsp⟩ =>
    subst hG
    unfold p_box at hsp
    have hbx := hS.bx
    have bad : ¬ l = -1 → (l < 1 ∨ 99 < l) → X f_GX 26 [some (.ref 0), some (.int l)] [] M := by
      intro h h2
      rw [if_neg h, if_pos h2] at hsp
      exact f_run_ok (stop := fun _ => false) hX 10 _ _ _ _ _ (hsp M hR)
    refine f_run_ok (stop := fun q => Nat.beq q 26 || Nat.beq q 29) hX 40 _ _ _ _ _ ?_
    refine And.intro (fun h => ?_) (fun h => ?_)
    · rw [if_pos h] at hsp
      exact hsp _ (hR.sU (k := 1) (i := 10) (w := nI 0) (by decide) (by decide) (hR.1.s04 _))
    · refine And.intro (fun h2 => bad h (Or.inl h2)) (fun h2 => ?_)
      refine And.intro (fun h3 => ?_) (fun h3 => bad h (Or.inr (Int32.not_le.mp h3)))
      rw [if_neg h, if_neg (fun z => z.elim h2 (fun z => Int32.not_lt.mpr h3 z))] at hsp
      have h0 : 0 ≤ l := Int32.le_trans (by decide) (Int32.not_lt.mp h2)
      refine f_run_ok (stop := fun q => Nat.beq q 62) hX 40 _ _ _ _ _ ?_
      refine And.intro (fun h4 => ?_) (fun h4 => ?_)
      · have h4 : M.1 1 10 < 10 := h4
        rw [hR.bx] at h4
        have h4 := (nI_ltI (b := 10) (by omega) (by omega)).mp h4
        rw [if_neg (by omega)] at hsp
        show X f_GX 62 [some (.ref 0), some (.int l)] [] (f_pt 10 11 (M.1 1 10) l M)
        rw [hR.bx, f_pt_in (n := 10) h4 (by decide)]
        refine f_run_ok (stop := fun _ => false) hX 20 _ _ _ _ _ ?_
        have e1 := hR.sU (k := 11) (i := s.1.1 0 4) (w := nI (f_n l)) (by decide) (by decide) (hR.1.s5 _ _)
        have e2 := e1.sU (k := 1) (i := 10) (w := nI (s.1.1 0 4 + 1)) (by decide) (by decide) (e1.1.s04 _)
        rw [f_nn h0] at e2
        have e3 : f_up M.1 11 (s.1.1 0 4) l 1 10 + 1 = nI (s.1.1 0 4 + 1) := by
          show M.1 1 10 + 1 = _
          rw [hR.bx, nI_succ]
        rw [← e3] at e2
        refine f_fin (hsp _ e2) ?_ rfl
        rw [← e3]
        rfl
      · have h4 : ¬ M.1 1 10 < 10 := h4
        rw [hR.bx] at h4
        have h4 : ¬ s.1.1 0 4 < 10 := fun z => h4 (nI_lt (b := 10) z (by omega))
        rw [if_pos (by omega)] at hsp
        exact hsp M hR
theorem f_RX.rw11 {s : fSt} {M : fMem} (hR : f_RX s M) (hS : f_SW s) : f_RW f_GX M 11 (s.1.1 0 4) (s.1.1 5) := ⟨(10, M.1 11), rfl, hS.bx, fun i hi => ⟨hR.bo i (by have := hS.bx; omega), by have := hS.bo i hi; omega⟩⟩
set_option maxRecDepth 20000 in
theorem m_x_triangles : f_Meets 1 (kX11_triangles S_ct) (f_x0 p_triangles) := by
  intro G As M R hsp X hX hW
  match As, hsp with
  | [.ref 0], ⟨s, hG, hS, hR, hsp⟩ =>
    subst hG
    have hbx := hS.bx
    refine f_run_ok (stop := fun q => false) hX 40 _ _ _ _ _ ?_
    exact ⟨s.1.1 0 4, s.1.1 5, hR.bx, by omega, hR.rw11 hS, hsp M hR⟩
set_option maxRecDepth 20000 in
theorem m_x_drawn : f_Meets 3 (kX11_drawn S_isP S_ct S_partOf) (f_x1 p_drawn) := by
  intro G As M R hsp X hX hW
  match As, hsp with
  | [.ref 0, .int p], ⟨s, hG, hS, hR, hsp⟩ =>
    subst hG
    unfold p_drawn at hsp
    have hbx := hS.bx
    have hM := hR.bx
    have bad : (s.1.1 0 4 < 3 ∨ f_pt1 p = false) → X f_GX 20 [some (.ref 0), some (.int p), some (.int (nI (s.1.1 0 4)))] [] M := by
      intro h
      rw [if_pos h] at hsp
      exact f_run_ok (stop := fun _ => false) hX 10 _ _ _ _ _ (hsp M hR)
    refine f_run_ok (stop := fun q => Nat.beq q 8) hX 40 _ _ _ _ _ ?_
    show X f_GX 8 [some (.ref 0), some (.int p), some (.int (M.1 1 10))] [] M
    rw [hM]
    refine f_run_ok (stop := fun q => Nat.beq q 20 || Nat.beq q 24) hX 40 _ _ _ _ _ ?_
    refine And.intro (fun h => bad (Or.inl ((nI_ltI (b := 3) (by omega) (by omega)).mp h))) (fun h => ?_)
    have h3 : ¬ s.1.1 0 4 < 3 := fun z => h (nI_lt (b := 3) z (by omega))
    refine And.intro (fun hz => bad (Or.inr ((f_b0 (c := f_pt1 p)).mp hz))) (fun hz => ?_)
    have hp : f_pt1 p = true := f_b_nt (c := f_pt1 p) hz
    rw [if_neg (by rw [hp]; exact fun z => z.elim h3 (by decide))] at hsp
    have hrw := hR.rw11 hS
    have htl := f_tri_le (s.1.1 5) (s.1.1 0 4)
    generalize s.1.1 0 4 = N at *
    obtain ⟨m, rfl⟩ : ∃ m, N = m + 3 := ⟨N - 3, by omega⟩
    have t1 : (m + 3) * ((m + 3) * (m + 3)) ≤ 10 * (10 * 10) := Nat.mul_le_mul (by omega) (Nat.mul_le_mul (by omega) (by omega))
    have t2 : (m + 3) * (m + 3 - 1) * (m + 3 - 2) ≤ 10 * 9 * 8 := Nat.mul_le_mul (Nat.mul_le_mul (by omega) (by omega)) (by omega)
    have t3 : 3 * 2 * 1 ≤ (m + 3) * (m + 3 - 1) * (m + 3 - 2) := Nat.mul_le_mul (Nat.mul_le_mul (by omega) (by omega)) (by omega)
    refine f_run_ok (stop := fun q => false) hX 40 _ _ _ _ _ ?_
    refine ⟨m + 3, s.1.1 5, rfl, by omega, hrw, ?_⟩
    have e1 : (nI (f_tri (s.1.1 5) (m + 3))).toInt64 = lN (f_tri (s.1.1 5) (m + 3)) := f_wide (by omega)
    have e2 : nI (m + 3) * (nI (m + 3) - 1) * (nI (m + 3) - 2) / 6 = nI ((m + 3) * (m + 3 - 1) * (m + 3 - 2) / 6) := by
      have a1 : nI (m + 3) - 1 = nI (m + 3 - 1) := pk_sub (a := m + 3) (b := 1) (by omega)
      have a2 : nI (m + 3) - 2 = nI (m + 3 - 2) := pk_sub (a := m + 3) (b := 2) (by omega)
      rw [a1, a2, pk_mul, pk_mul]
      exact pk_div (d := 6) (by omega) (by omega) (by omega)
    have e3 : (nI (m + 3) * (nI (m + 3) - 1) * (nI (m + 3) - 2) / 6).toInt64 = lN ((m + 3) * (m + 3 - 1) * (m + 3 - 2) / 6) := by rw [e2, f_wide (by omega)]
    obtain ⟨y1, y2, y3⟩ := f_pof (p := p) (R := R) (u := f_tri (s.1.1 5) (m + 3)) (v := (m + 3) * (m + 3 - 1) * (m + 3 - 2) / 6) (by omega) (by omega) (by omega) (hsp M hR)
    rw [← e1, ← e3] at *
    exact ⟨by decide, y1, y2, y3⟩
set_option maxRecDepth 20000 in
theorem m_x_none : f_Meets 3 (kX11_none S_mu S_bitCount) (f_x1 p_none) := by
  intro G As M R hsp X hX hW
  match As, hsp with
  | [.ref 0, .int w], ⟨s, hG, hS, hR, hsp⟩ =>
    subst hG
    unfold p_none at hsp
    have hbx := hS.bx
    have go : (w = 0 ∨ w = 1) → X f_GX 11 [some (.ref 0), some (.int w), none] [] M := by
      intro hw
      rw [if_neg (fun z => hw.elim z.1 z.2)] at hsp
      refine f_run_ok (stop := fun q => Nat.beq q 32) hX 40 _ _ _ _ _ ?_
      refine ⟨s.1.1 0 4, s.1.1 5, rfl, hR.bx, hR.bxs hS, fun M1 he1 => ?_⟩
      have r1 := hR.scr he1 (by decide)
      have hmu : f_mu (s.1.1 5) (s.1.1 0 4) < 2 ^ 17 := by
        have h1 : f_mu (s.1.1 5) (s.1.1 0 4) ≤ 2 ^ s.1.1 0 4 := f_bst_le _ _
        have h2 : 2 ^ s.1.1 0 4 ≤ 2 ^ 10 := Nat.pow_le_pow_right (by decide) hbx
        omega
      refine f_run_ok (stop := fun q => false) hX 40 _ _ _ _ _ ?_
      refine And.intro (fun h => ?_) (fun h => ?_)
      · have h : w = 0 := h
        rw [if_pos h] at hsp
        exact ⟨_, rfl, hmu, hsp M1 r1⟩
      · have h : ¬ w = 0 := h
        rw [if_neg h] at hsp
        exact hsp M1 r1
    refine f_run_ok (stop := fun q => Nat.beq q 11) hX 40 _ _ _ _ _ ?_
    refine And.intro (fun h => go (Or.inl h)) (fun h => ?_)
    refine And.intro (fun h2 => go (Or.inr h2)) (fun h2 => ?_)
    rw [if_pos ⟨h, h2⟩] at hsp
    exact hsp M hR
