/-! ===== public methods: book, looked, act, trace, as, image, undo, count ===== -/
theorem f_RX.sB {s : fSt} {M : fMem} (hR : f_RX s M) {i v n : Nat} (hi : i < 32) (hv : v < 2 ^ 31) (hn : n = 32) : f_RX (f_su s.1 7 i v, s.2) (f_pt n 13 (nI i) (nI v) M) := by
  subst hn
  rw [f_pt_in (n := 32) hi (by decide)]
  exact hR.sU (k := 13) (i := i) (w := nI v) (by decide) (by decide) (hR.1.s7 _ _)
set_option maxRecDepth 20000 in
theorem m_x_book : f_Meets 6 (kX11_book S_isL S_put) (f_x4 p_book) := by
  intro G As M R hsp X hX hW
  match As, hsp with
  | [.ref 0, .int a, .int b, .int c, .int d], ⟨s, hG, hS, hR, hsp⟩ =>
    subst hG
    unfold p_book at hsp
    have hbk := hS.bk
    refine f_run_ok (stop := fun q => Nat.beq q 36 || Nat.beq q 39) hX 40 _ _ _ _ _ ?_
    refine And.intro (fun h => ?_) (fun h => ?_)
    · rw [if_pos h] at hsp
      exact hsp _ (hR.sU (k := 1) (i := 14) (w := nI 0) (by decide) (by decide) (hR.1.s06 _))
    · rw [if_neg h] at hsp
      have bad : (¬ (1 ≤ a ∧ a ≤ 99) ∨ ¬ (1 ≤ b ∧ b ≤ 99) ∨ ¬ (1 ≤ c ∧ c ≤ 99)) → X f_GX 36 [some (.ref 0), some (.int a), some (.int b), some (.int c), some (.int d), none] [] M := by
        intro h
        rw [if_pos h] at hsp
        exact f_run_ok (stop := fun _ => false) hX 10 _ _ _ _ _ (hsp M hR)
      refine And.intro (fun h1 => bad (Or.inl (of_decide_eq_false (f_b0.mp h1)))) (fun h1 => ?_)
      have h1 := of_decide_eq_true (f_b_nt h1)
      refine And.intro (fun h2 => bad (Or.inr (Or.inl (of_decide_eq_false (f_b0.mp h2))))) (fun h2 => ?_)
      have h2 := of_decide_eq_true (f_b_nt h2)
      refine And.intro (fun h3 => bad (Or.inr (Or.inr (of_decide_eq_false (f_b0.mp h3))))) (fun h3 => ?_)
      have h3 := of_decide_eq_true (f_b_nt h3)
      rw [if_neg (fun z => z.elim (fun z => z h1) (fun z => z.elim (fun z => z h2) (fun z => z h3)))] at hsp
      clear bad
      have a0 : 0 ≤ a := Int32.le_trans (by decide) h1.1
      have b0 : 0 ≤ b := Int32.le_trans (by decide) h2.1
      have c0 : 0 ≤ c := Int32.le_trans (by decide) h3.1
      refine f_run_ok (stop := fun q => Nat.beq q 54) hX 40 _ _ _ _ _ ?_
      refine And.intro (fun h4 => ?_) (fun h4 => ?_)
      · have h4 : M.1 1 14 < 8 := h4
        rw [hR.bk] at h4
        have h4 := (nI_ltI (b := 8) (by omega) (by omega)).mp h4
        rw [if_neg (by omega)] at hsp
        refine f_run_ok (stop := fun q => Nat.beq q 65) hX 40 _ _ _ _ _ ?_
        show X f_GX 65 [some (.ref 0), some (.int a), some (.int b), some (.int c), some (.int d), some (.int (M.1 1 14 * 4))] [] M
        have e : M.1 1 14 * 4 = nI (s.1.1 0 6 * 4) := by rw [hR.bk]; exact pk_mul _ 4
        rw [e]
        generalize hi : s.1.1 0 6 * 4 = i at *
        have e1 : nI i + 1 = nI (i + 1) := nI_add i 1
        have e2 : nI i + 2 = nI (i + 2) := nI_add i 2
        have e3 : nI i + 3 = nI (i + 3) := nI_add i 3
        have r1 := hR.sB (i := i) (v := f_n a) (n := 32) (by omega) (f_n_lt a) rfl
        have r2 := r1.sB (i := i + 1) (v := f_n b) (n := 32) (by omega) (f_n_lt b) rfl
        have r3 := r2.sB (i := i + 2) (v := f_n c) (n := 32) (by omega) (f_n_lt c) rfl
        rw [f_nn a0, f_nn b0, f_nn c0, ← e1, ← e2] at r3
        generalize hM3 : f_pt 32 13 (nI i + 2) c (f_pt 32 13 (nI i + 1) b (f_pt 32 13 (nI i) a M)) = M3 at r3
        have fin : ∀ v : Nat, v < 2 → v = (if d = 0 then 0 else 1) → X f_GX 129 [some (.ref 0), some (.int a), some (.int b), some (.int c), some (.int d), some (.int (nI i))] [.int (nI v), .int (nI i + 3), .ref 13] M3 := by
          intro v hv hd
          rw [← hd] at hsp
          have r4 := r3.sB (i := i + 3) (v := v) (n := 32) (by omega) (by omega) rfl
          rw [← e3] at r4
          refine f_run_ok (stop := fun q => Nat.beq q 132) hX 40 _ _ _ _ _ ?_
          show X f_GX 132 [some (.ref 0), some (.int a), some (.int b), some (.int c), some (.int d), some (.int (nI i))] [] (f_pt 32 13 (nI i + 3) (nI v) M3)
          generalize f_pt 32 13 (nI i + 3) (nI v) M3 = M4 at *
          refine f_run_ok (stop := fun _ => false) hX 40 _ _ _ _ _ ?_
          have r5 := r4.sU (k := 1) (i := 14) (w := nI (s.1.1 0 6 + 1)) (by decide) (by decide) (r4.1.s06 _)
          have e6 : M4.1 1 14 + 1 = nI (s.1.1 0 6 + 1) := by
            have : M4.1 1 14 = nI (s.1.1 0 6) := r4.bk
            rw [this, nI_succ]
          rw [← e6] at r5
          refine f_fin (hsp _ r5) ?_ rfl
          rw [← e6]
          rfl
        refine f_run_ok (stop := fun q => Nat.beq q 129) hX 60 _ _ _ _ _ ?_
        refine And.intro (fun hd => ?_) (fun hd => ?_)
        · have hd : d = 0 := hd
          have q := fin 0 (by omega) (by rw [if_pos hd])
          rw [← hM3] at q
          exact q
        · have hd : ¬ d = 0 := hd
          have q := fin 1 (by omega) (by rw [if_neg hd])
          rw [← hM3] at q
          exact q
      · have h4 : ¬ M.1 1 14 < 8 := h4
        rw [hR.bk] at h4
        have h4 : ¬ s.1.1 0 6 < 8 := fun z => h4 (nI_lt (b := 8) z (by omega))
        rw [if_pos (by omega)] at hsp
        exact hsp M hR
set_option maxRecDepth 20000 in
theorem m_x_looked : f_Meets 4 (kX11_looked S_at S_closing) (f_x0 p_looked) := by
  intro G As M R hsp X hX hW
  match As, hsp with
  | [.ref 0], ⟨s, hG, hS, hR, hsp⟩ =>
    subst hG
    unfold p_looked at hsp
    have hbk := hS.bk
    have hbb := hS.1.2.2.2.2.2.2.2.1
    have hb3 := hS.1.2.2.2.2.2.2.2.2.1
    have rd : ∀ i z, i < 8 → z = nI (i * 4) → ∀ j, j < 4 → ∀ y, y = nI j → f_at (32, M.1 13) (z + y) = nI (s.1.1 7 (i * 4 + j)) := by
      intro i z hi hz j hj y hy
      rw [hz, hy, nI_add, f_at_in (t := (32, M.1 13)) (by show i * 4 + j < 32; omega) (by show 32 < 2 ^ 31; omega)]
      exact hR.bb _ (by omega)
    have loop : ∀ (t i : Nat) (u v : Option Value), i + t = s.1.1 0 6 → f_lok (s.1.1 7) t i = f_lok (s.1.1 7) (s.1.1 0 6) 0 → X f_GX 2 [some (.ref 0), some (.int (nI i)), u, v] [] M := by
      intro t
      induction t with
      | zero =>
        intro i u v hi he
        refine f_run_ok (stop := fun q => false) hX 40 _ _ _ _ _ ?_
        refine And.intro (fun h => ?_) (fun h => ?_)
        · exact f_fin (hsp M hR) (by rw [← he]; rfl) rfl
        · have h : ¬ M.1 1 14 ≤ nI i := h
          rw [hR.bk] at h
          exact absurd (nI_le (by omega) (by omega)) h
      | succ t ih =>
        intro i u v hi he
        have he : (if f_clz (s.1.1 7 (i * 4)) (s.1.1 7 (i * 4 + 1)) (s.1.1 7 (i * 4 + 2)) = decide (s.1.1 7 (i * 4 + 3) = 1) then f_lok (s.1.1 7) t (i + 1) else nI i) = f_lok (s.1.1 7) (s.1.1 0 6) 0 := he
        have ez : nI i * 4 = nI (i * 4) := pk_mul i 4
        have q0 : f_at (32, M.1 13) (nI i * 4) = nI (s.1.1 7 (i * 4)) := by
          rw [ez, f_at_in (t := (32, M.1 13)) (by show i * 4 < 32; omega) (by show 32 < 2 ^ 31; omega)]
          exact hR.bb _ (by omega)
        have q1 := rd i (nI i * 4) (by omega) ez 1 (by omega) 1 rfl
        have q2 := rd i (nI i * 4) (by omega) ez 2 (by omega) 2 rfl
        have q3 := rd i (nI i * 4) (by omega) ez 3 (by omega) 3 rfl
        have b0 := hbb i (by omega) 0 (by omega)
        have b1 := hbb i (by omega) 1 (by omega)
        have b2 := hbb i (by omega) 2 (by omega)
        have b3 := hb3 i
        rw [Nat.add_zero] at b0
        have tail : ∀ w : Nat, w < 2 → w = (if s.1.1 7 (i * 4 + 3) = 1 then 1 else 0) → X f_GX 81 [some (.ref 0), some (.int (nI i)), some (.int (nI i * 4)), some (.int (f_b (f_clz (s.1.1 7 (i * 4)) (s.1.1 7 (i * 4 + 1)) (s.1.1 7 (i * 4 + 2)))))] [.int (nI w), .int (f_b (f_clz (s.1.1 7 (i * 4)) (s.1.1 7 (i * 4 + 1)) (s.1.1 7 (i * 4 + 2))))] M := by
          intro w hw hwe
          have ew : nI w = f_b (decide (s.1.1 7 (i * 4 + 3) = 1)) := by
            rw [hwe]
            by_cases h : s.1.1 7 (i * 4 + 3) = 1
            · rw [if_pos h, decide_eq_true h]; rfl
            · rw [if_neg h, decide_eq_false h]; rfl
          rw [ew]
          have feq : ∀ x y : Bool, f_b x = f_b y ↔ x = y := by decide
          refine f_run_ok (stop := fun q => Nat.beq q 2) hX 40 _ _ _ _ _ ?_
          refine And.intro (fun h => ?_) (fun h => ?_)
          · have h := (feq _ _).mp h
            rw [if_pos h] at he
            have q := ih (i + 1) (some (.int (nI i * 4))) (some (.int (f_b (f_clz (s.1.1 7 (i * 4)) (s.1.1 7 (i * 4 + 1)) (s.1.1 7 (i * 4 + 2)))))) (by omega) he
            rw [nI_succ] at q
            exact q
          · have h : ¬ f_clz (s.1.1 7 (i * 4)) (s.1.1 7 (i * 4 + 1)) (s.1.1 7 (i * 4 + 2)) = decide (s.1.1 7 (i * 4 + 3) = 1) := fun z => h ((feq _ _).mpr z)
            rw [if_neg h] at he
            exact f_fin (hsp M hR) (by rw [← he]; rfl) rfl
        refine f_run_ok (stop := fun q => Nat.beq q 81) hX 60 _ _ _ _ _ ?_
        refine And.intro (fun h => ?_) (fun _ => ?_)
        · have h : M.1 1 14 ≤ nI i := h
          rw [hR.bk] at h
          exact absurd ((nI_leI (by omega) (by omega)).mp h) (by omega)
        · refine ⟨_, _, _, q0, q1, q2, by omega, by omega, by omega, ?_⟩
          refine And.intro (fun h => ?_) (fun h => ?_)
          · have h : f_at (32, M.1 13) (nI i * 4 + 3) = 1 := h
            rw [q3] at h
            have h := (nI_eq (b := 1) (by omega) (by omega)).mp h
            exact tail 1 (by omega) (by rw [if_pos h])
          · have h : ¬ f_at (32, M.1 13) (nI i * 4 + 3) = 1 := h
            rw [q3] at h
            have h : ¬ s.1.1 7 (i * 4 + 3) = 1 := fun z => h (by rw [z]; rfl)
            exact tail 0 (by omega) (by rw [if_neg h])
    refine f_run_ok (stop := fun q => Nat.beq q 2) hX 40 _ _ _ _ _ ?_
    exact loop (s.1.1 0 6) 0 none none (by omega) rfl
def S_start : fSp := f_self 6 (kX0_start (S_run 41)) 40
set_option maxRecDepth 20000 in
theorem m_x_trace : f_Meets 2 (kX11_trace S_at) (f_x1 p_trace) := by
  intro G As M R hsp X hX hW
  match As, hsp with
  | [.ref 0, .int i], ⟨s, hG, hS, hR, hsp⟩ =>
    subst hG
    unfold p_trace at hsp
    have hlen := hS.2.2
    obtain ⟨g4, g5⟩ := hR.2.2.2.1
    have bad : ¬ (0 ≤ i ∧ i < nI s.2.2.length) → X f_GX 35 [some (.ref 0), some (.int i)] [] M := by
      intro h
      rw [if_neg h] at hsp
      exact f_run_ok (stop := fun _ => false) hX 10 _ _ _ _ _ (hsp M hR)
    refine f_run_ok (stop := fun q => Nat.beq q 35) hX 40 _ _ _ _ _ ?_
    refine And.intro (fun h => bad (fun z => Int32.not_lt.mpr z.1 h)) (fun h => ?_)
    refine And.intro (fun h2 => bad (fun z => ?_)) (fun h2 => ?_)
    · have h2 : M.1 52 0 ≤ i := h2
      rw [g4] at h2
      exact Int32.not_lt.mpr h2 z.2
    have h2 : ¬ M.1 52 0 ≤ i := h2
    rw [g4] at h2
    have i0 : 0 ≤ i := Int32.not_lt.mp h
    have hin := Int32.not_le.mp h2
    have hi := f_nlt i0 hin (by omega)
    refine And.intro (fun h3 => ?_) (fun h3 => ?_)
    · have h3 := f_nge (k := 20) h3 (by omega)
      omega
    · rw [if_pos ⟨i0, hin⟩] at hsp
      refine f_fin (hsp M hR) (congrArg (fun z => some (Value.int z)) ?_) rfl
      show _ = f_at (20, M.1 53) i
      rw [← f_nn i0, f_at_in (t := (20, M.1 53)) (by show f_n i < 20; omega) (by show 20 < 2 ^ 31; omega), f_n_nI (f_n_lt i)]
      show _ = M.1 53 (f_n i)
      rw [g5 (f_n i) (s.2.2.getD (f_n i) 0) (by omega) (by rw [List.getD_eq_getElem?_getD, List.getElem?_eq_getElem hi]; rfl)]
set_option maxRecDepth 20000 in
theorem m_x_as : f_Meets 5 (kX11_as S_isB S_at) (f_x2 p_as) := by
  intro G As M R hsp X hX hW
  match As, hsp with
  | [.ref 0, .int b, .int k], ⟨s, hG, hS, hR, hsp⟩ =>
    subst hG
    unfold p_as at hsp
    have bad : (f_ng b s = false ∨ k < 0 ∨ 7 ≤ k) → X f_GX 18 [some (.ref 0), some (.int b), some (.int k), none, none] [] M := by
      intro h
      rw [if_pos h] at hsp
      exact f_run_ok (stop := fun _ => false) hX 10 _ _ _ _ _ (hsp M hR)
    refine f_run_ok (stop := fun q => Nat.beq q 18 || Nat.beq q 20) hX 40 _ _ _ _ _ ?_
    refine ⟨rfl, ?_⟩
    rw [f_ng_b hR]
    cases hb : f_ng b s with
    | false => exact And.intro (fun _ => bad (Or.inl hb)) (fun z => absurd rfl z)
    | true =>
      obtain ⟨b1, b2, b3⟩ := f_ng_t hS hb
      refine And.intro (fun z => absurd z (by decide)) (fun _ => ?_)
      refine And.intro (fun h => bad (Or.inr (Or.inl h))) (fun h => ?_)
      refine And.intro (fun h2 => ?_) (fun h2 => bad (Or.inr (Or.inr (Int32.not_lt.mp h2))))
      rw [if_neg (by rw [hb]; exact fun z => z.elim (by decide) (fun z => z.elim h (fun z => Int32.not_lt.mpr z h2)))] at hsp
      clear bad
      obtain ⟨K, hKb, rfl⟩ := nI_of (x := k) h
      have k7 := (nI_ltI (b := 7) hKb (by omega)).mp h2
      rw [f_n_nI hKb] at hsp
      generalize f_n b = B at *
      subst b3
      have ekd : f_at (6, M.1 2) (nI B) = nI (s.1.1 1 B) := by
        rw [f_at_in (t := (6, M.1 2)) b2 (by show 6 < 2 ^ 31; omega)]
        exact hR.kd _ b2
      have evl : f_at (6, M.1 3) (nI B) = nI (s.1.1 2 B) := by
        rw [f_at_in (t := (6, M.1 3)) b2 (by show 6 < 2 ^ 31; omega)]
        exact hR.vl _ b2
      have hkd := hS.kd B
      generalize s.1.1 1 B = kd at *
      have hit : ∀ o t, o < 7 → t < 7 → o = K → f_und kd K = true → X f_GX 35 [some (.ref 0), some (.int (nI B)), some (.int (nI K)), some (.int (nI o)), some (.int (nI t))] [] M := by
        intro o t ho ht he hu
        rw [if_pos hu] at hsp
        refine f_run_ok (stop := fun q => Nat.beq q 35) hX 40 _ _ _ _ _ ?_
        refine And.intro (fun z => absurd ((nI_leI (a := 7) (by omega) (by omega)).mp z) (by omega)) (fun _ => ?_)
        refine And.intro (fun z => absurd z (nI_pos (by omega))) (fun _ => ?_)
        refine And.intro (fun z => ?_) (fun z => absurd (by rw [he]) z)
        exact f_fin (hsp M hR) (congrArg (fun z => some (Value.int z)) evl.symm) rfl
      have mis : ∀ o t, o < 7 → t < 7 → o ≠ K → X f_GX 35 [some (.ref 0), some (.int (nI B)), some (.int (nI K)), some (.int (f_tABOVE o)), some (.int (nI (t + 1)))] [] M → X f_GX 35 [some (.ref 0), some (.int (nI B)), some (.int (nI K)), some (.int (nI o)), some (.int (nI t))] [] M := by
        intro o t ho ht he q
        rw [nI_succ] at q
        refine f_run_ok (stop := fun q => Nat.beq q 35) hX 40 _ _ _ _ _ ?_
        refine And.intro (fun z => absurd ((nI_leI (a := 7) (by omega) (by omega)).mp z) (by omega)) (fun _ => ?_)
        refine And.intro (fun z => absurd z (nI_pos (by omega))) (fun _ => ?_)
        refine And.intro (fun z => absurd ((nI_eq (by omega) (by omega)).mp z) he) (fun _ => ?_)
        have e : f_at (7, f_tABOVE) (nI o) = f_tABOVE o := f_at_in (t := (7, f_tABOVE)) ho (by show 7 < 2 ^ 31; omega)
        rw [← e] at q
        exact q
      have out : ∀ t, t < 7 → f_und kd K = false → X f_GX 35 [some (.ref 0), some (.int (nI B)), some (.int (nI K)), some (.int (f_tABOVE 0)), some (.int (nI t))] [] M := by
        intro t ht hu
        rw [if_neg (by rw [hu]; decide)] at hsp
        refine f_run_ok (stop := fun q => false) hX 40 _ _ _ _ _ ?_
        refine And.intro (fun z => absurd ((nI_leI (a := 7) (by omega) (by omega)).mp z) (by omega)) (fun _ => ?_)
        exact And.intro (fun _ => hsp M hR) (fun z => absurd (show f_tABOVE 0 < 0 by decide +kernel) z)
      have root : ∀ t, t + 1 < 7 → (K = 0 → f_und kd K = true) → (K ≠ 0 → f_und kd K = false) → X f_GX 35 [some (.ref 0), some (.int (nI B)), some (.int (nI K)), some (.int (nI 0)), some (.int (nI t))] [] M := by
        intro t ht h1 h2
        by_cases e : K = 0
        · exact hit 0 t (by omega) (by omega) e.symm (h1 e)
        · exact mis 0 t (by omega) (by omega) (fun z => e z.symm) (out (t + 1) (by omega) (h2 e))
      have u0 : K = 0 → f_und kd K = true := fun e => decide_eq_true (Or.inl e)
      have mid : ∀ o t, 1 ≤ o → o < 4 → t + 2 < 7 → (K = o → f_und kd K = true) → (K ≠ o → K ≠ 0 → f_und kd K = false) → X f_GX 35 [some (.ref 0), some (.int (nI B)), some (.int (nI K)), some (.int (nI o)), some (.int (nI t))] [] M := by
        intro o t h1 h2 ht h3 h4
        by_cases e : K = o
        · exact hit o t (by omega) (by omega) e.symm (h3 e)
        · refine mis o t (by omega) (by omega) (fun z => e z.symm) ?_
          have ea : f_tABOVE o = nI 0 := by
            rw [f_tA_at o (by omega) (by omega)]
            unfold f_abv
            rw [if_pos (by omega)]
          rw [ea]
          exact root (t + 1) (by omega) u0 (fun z => h4 e z)
      refine f_run_ok (stop := fun q => Nat.beq q 35) hX 40 _ _ _ _ _ ?_
      show X f_GX 35 [some (.ref 0), some (.int (nI B)), some (.int (nI K)), some (.int (f_at (6, M.1 2) (nI B))), some (.int (nI 0))] [] M
      rw [ekd]
      by_cases c0 : kd = 0
      · subst c0
        exact root 0 (by omega) u0 (fun z => decide_eq_false (by omega))
      · by_cases c1 : kd < 4
        · exact mid kd 0 (by omega) c1 (by omega) (fun e => decide_eq_true (by omega)) (fun e e2 => decide_eq_false (by omega))
        · by_cases e : K = kd
          · exact hit kd 0 (by omega) (by omega) e.symm (decide_eq_true (by omega))
          · refine mis kd 0 (by omega) (by omega) (fun z => e z.symm) ?_
            have ea : f_tABOVE kd = nI (kd - 3) := by
              rw [f_tA_at kd (by omega) (by omega)]
              unfold f_abv
              rw [if_neg (by omega)]
            rw [ea]
            exact mid (kd - 3) (0 + 1) (by omega) (by omega) (by omega) (fun e => decide_eq_true (by omega)) (fun e1 e2 => decide_eq_false (by omega))
set_option maxRecDepth 20000 in
theorem m_x_count : f_Meets 2 kX11_count (f_x1 p_count) := by
  intro G As M R hsp X hX hW
  match As, hsp with
  | [.ref 0, .int w], ⟨s, hG, hS, hR, hsp⟩ =>
    subst hG
    unfold p_count at hsp
    have g4 := hR.2.2.2.1.1
    refine f_run_ok (stop := fun q => false) hX 40 _ _ _ _ _ ?_
    refine And.intro (fun h0 => ?_) (fun h0 => And.intro (fun h1 => ?_) (fun h1 => And.intro (fun h2 => ?_) (fun h2 => And.intro (fun h3 => ?_) (fun h3 => And.intro (fun h4 => ?_) (fun h4 => And.intro (fun h5 => ?_) (fun h5 => And.intro (fun h6 => ?_) (fun h6 => ?_)))))))
    · rw [if_pos h0] at hsp
      exact f_fin (hsp M hR) (congrArg (fun z => some (Value.int z)) hR.nb.symm) rfl
    · rw [if_neg h0, if_pos h1] at hsp
      exact f_fin (hsp M hR) (congrArg (fun z => some (Value.int z)) hR.ny.symm) rfl
    · rw [if_neg h0, if_neg h1, if_pos h2] at hsp
      exact f_fin (hsp M hR) (congrArg (fun z => some (Value.int z)) hR.bx.symm) rfl
    · rw [if_neg h0, if_neg h1, if_neg h2, if_pos h3] at hsp
      exact f_fin (hsp M hR) (congrArg (fun z => some (Value.int z)) hR.sn.symm) rfl
    · rw [if_neg h0, if_neg h1, if_neg h2, if_neg h3, if_pos h4] at hsp
      exact f_fin (hsp M hR) (congrArg (fun z => some (Value.int z)) hR.bk.symm) rfl
    · rw [if_neg h0, if_neg h1, if_neg h2, if_neg h3, if_neg h4, if_pos h5] at hsp
      exact f_fin (hsp M hR) (congrArg (fun z => some (Value.int z)) hR.sg.symm) rfl
    · rw [if_neg h0, if_neg h1, if_neg h2, if_neg h3, if_neg h4, if_neg h5, if_pos h6] at hsp
      exact f_fin (hsp M hR) (congrArg (fun z => some (Value.int z)) g4.symm) rfl
    · rw [if_neg h0, if_neg h1, if_neg h2, if_neg h3, if_neg h4, if_neg h5, if_neg h6] at hsp
      exact hsp M hR
theorem f_rn_len (v b x : Int32) : ∀ (a kd : Nat), a < 3 → kd < 7 → (f_rn kd v b 41 a kd x).2.length < 20
  | 0, 0, _, _ => Nat.le_of_ble_eq_true rfl
  | 0, 1, _, _ => Nat.le_of_ble_eq_true rfl
  | 0, 2, _, _ => Nat.le_of_ble_eq_true rfl
  | 0, 3, _, _ => Nat.le_of_ble_eq_true rfl
  | 0, 4, _, _ => Nat.le_of_ble_eq_true rfl
  | 0, 5, _, _ => Nat.le_of_ble_eq_true rfl
  | 0, 6, _, _ => Nat.le_of_ble_eq_true rfl
  | 1, 0, _, _ => Nat.le_of_ble_eq_true rfl
  | 1, 1, _, _ => Nat.le_of_ble_eq_true rfl
  | 1, 2, _, _ => Nat.le_of_ble_eq_true rfl
  | 1, 3, _, _ => Nat.le_of_ble_eq_true rfl
  | 1, 4, _, _ => Nat.le_of_ble_eq_true rfl
  | 1, 5, _, _ => Nat.le_of_ble_eq_true rfl
  | 1, 6, _, _ => Nat.le_of_ble_eq_true rfl
  | 2, 0, _, _ => Nat.le_of_ble_eq_true rfl
  | 2, 1, _, _ => Nat.le_of_ble_eq_true rfl
  | 2, 2, _, _ => Nat.le_of_ble_eq_true rfl
  | 2, 3, _, _ => Nat.le_of_ble_eq_true rfl
  | 2, 4, _, _ => Nat.le_of_ble_eq_true rfl
  | 2, 5, _, _ => Nat.le_of_ble_eq_true rfl
  | 2, 6, _, _ => Nat.le_of_ble_eq_true rfl
  | _ + 3, _, h, _ => absurd h (by omega)
  | _, _ + 7, _, h => absurd h (by omega)
theorem f_RX.trc {s : fSt} {M M' : fMem} {tr : List Nat} (hR : f_RX s M) (he : f_ex [52, 53] [] M M') (ht : f_TR M' tr) : f_RX (s.1, s.2.1, tr) M' := by
  obtain ⟨h1, h2, h3, h4, h6⟩ := hR
  have e : ∀ c, c < 52 → M'.1 c = M.1 c := fun c hc => he.1 c (by intro z; simp only [List.mem_cons, List.not_mem_nil, or_false] at z; omega)
  exact ⟨h1.cg (fun c _ _ => e _ (by omega)), by rw [e 0 (by omega)]; exact h2, fun k hk => (h3 k hk).cg (fun c _ _ => e _ (by omega)), ht, fun i hi => by rw [e 42 (by omega)]; exact h6 i hi⟩
set_option maxRecDepth 20000 in
theorem m_x_act : f_Meets 4 (kX11_act S_isB S_at S_start) (f_x3 p_act) := by
  intro G As M R hsp X hX hW
  match As, hsp with
  | [.ref 0, .int b, .int a, .int x], ⟨s, hG, hS, hR, hsp⟩ =>
    subst hG
    unfold p_act at hsp
    have bad : (f_ng b s = false ∨ a < 0 ∨ 2 < a) → X f_GX 17 [some (.ref 0), some (.int b), some (.int a), some (.int x)] [] M := by
      intro h
      rw [if_pos h] at hsp
      refine f_run_ok (stop := fun _ => false) hX 10 _ _ _ _ _ ?_
      exact hsp (f_up M.1 52 0 0, M.2) (hR.trc (f_ex.rf.up (by decide)) ⟨rfl, fun i y _ hy => by simp at hy⟩)
    refine f_run_ok (stop := fun q => Nat.beq q 17 || Nat.beq q 27) hX 40 _ _ _ _ _ ?_
    refine ⟨rfl, ?_⟩
    rw [f_ng_b hR]
    cases hb : f_ng b s with
    | false => exact And.intro (fun _ => bad (Or.inl hb)) (fun z => absurd rfl z)
    | true =>
      obtain ⟨b1, b2, b3⟩ := f_ng_t hS hb
      refine And.intro (fun z => absurd z (by decide)) (fun _ => ?_)
      refine And.intro (fun h => bad (Or.inr (Or.inl h))) (fun h => ?_)
      refine And.intro (fun h2 => ?_) (fun h2 => bad (Or.inr (Or.inr (Int32.not_le.mp h2))))
      rw [if_neg (by rw [hb]; exact fun z => z.elim (by decide) (fun z => z.elim h (fun z => Int32.not_lt.mpr h2 z)))] at hsp
      clear bad
      obtain ⟨A, hAb, rfl⟩ := nI_of (x := a) h
      have a2 := (nI_leI (b := 2) hAb (by omega)).mp h2
      rw [f_n_nI hAb] at hsp
      generalize f_n b = B at *
      subst b3
      have ekd : f_at (6, M.1 2) (nI B) = nI (s.1.1 1 B) := by
        rw [f_at_in (t := (6, M.1 2)) b2 (by show 6 < 2 ^ 31; omega)]
        exact hR.kd _ b2
      have evl : f_at (6, M.1 3) (nI B) = nI (s.1.1 2 B) := by
        rw [f_at_in (t := (6, M.1 3)) b2 (by show 6 < 2 ^ 31; omega)]
        exact hR.vl _ b2
      have hkd := hS.kd B
      have hlen := f_rn_len (nI (s.1.1 2 B)) (nI B) x A (s.1.1 1 B) (by omega) hkd
      generalize s.1.1 1 B = kd at *
      generalize s.1.1 2 B = v at *
      refine f_run_ok (stop := fun q => false) hX 60 _ _ _ _ _ ?_
      refine ⟨kd, nI v, nI B, A, kd, 0, [], rfl, rfl, by omega, ekd, hkd, rfl, rfl, hkd, rfl, ekd, evl, ⟨rfl, fun i y _ hy => by simp at hy⟩, by show 0 + _ < 1000; omega, fun M' he _ _ _ ht => ?_⟩
      have he0 : f_ex [52, 53] [] M (f_up (f_up (f_up (f_up M.1 52 2 (nI B)) 52 3 (f_at (6, M.1 2) (nI B))) 52 4 (f_at (6, M.1 3) (nI B))) 52 0 0, M.2) := (((f_ex.rf.up (by decide)).up (c := 52) (by decide)).up (c := 52) (by decide)).up (c := 52) (by decide)
      exact hsp M' (hR.trc (he0.tr he) ht)
/-! the image -/
def f_SC (x : Nat) : List Nat := [x, x + 1, x + 2, x + 3, x + 4, x + 5, x + 6, x + 7, x + 8, x + 9, x + 10, x + 11, x + 12]
def S_stc : fSp := fun G As M R => match As with
  | [.ref x, .ref y] => ∃ (k : fCo) (ox oy : Nat), G = f_GX ∧ ((x = 1 ∧ ox = 0 ∧ y = 14 ∧ oy = 13) ∨ (x = 14 ∧ ox = 13 ∧ y = 1 ∧ oy = 0)) ∧ f_CX oy k M ∧ f_CW k ∧ (∀ M', f_ex (f_SC x) [] M M' → f_CX ox k M' → R G none M')
  | _ => False
set_option maxRecDepth 20000 in
theorem m_stc : f_Meets 2 (kX8_copy S_copyRow S_ycp) S_stc := by
  intro G As M R hsp X hX hW
  match As, hsp with
  | [.ref x, .ref y], ⟨k, ox, oy, hG, hxy, hC, hk, hsp⟩ =>
    subst hG
    rcases hxy with ⟨rfl, rfl, rfl, rfl⟩ | ⟨rfl, rfl, rfl, rfl⟩
    · have hA : f_ex (f_SC 1) [] M (f_up (f_cpy (f_cpy (f_cpy (f_up M.1 1 0 (M.1 14 0), M.2) 15 2 6) 16 3 6) 17 4 24).1 1 4 (M.1 14 4), M.2) := (((((f_ex.rf (cs := f_SC 1) (ds := []) (M := M)).up (c := 1) (by decide)).cpy (b := 2) (by decide)).cpy (b := 3) (by decide)).cpy (b := 4) (by decide)).up (c := 1) (by decide)
      refine f_run_ok (stop := fun q => Nat.beq q 60) hX 60 _ _ _ _ _ ?_
      refine ⟨rfl, by decide, fun M2 he2 hcy => ?_⟩
      have he2 : f_ex [5, 6, 7, 8, 9] [] (f_up (f_cpy (f_cpy (f_cpy (f_up M.1 1 0 (M.1 14 0), M.2) 15 2 6) 16 3 6) 17 4 24).1 1 4 (M.1 14 4), M.2) M2 := he2
      have hcy : f_cy 5 18 (f_up (f_cpy (f_cpy (f_cpy (f_up M.1 1 0 (M.1 14 0), M.2) 15 2 6) 16 3 6) 17 4 24).1 1 4 (M.1 14 4), M.2) M2 := hcy
      have hB : f_ex (f_SC 1) [] M (f_cpy (f_up (f_cpy (f_up (f_cpy (f_up (f_cpy (f_up (f_up (f_up M2.1 1 6 (M2.1 14 6)) 1 7 (M2.1 14 7)) 1 8 (M2.1 14 8), M2.2) 23 10 100).1 1 10 (M2.1 14 10), M2.2) 24 11 10).1 1 12 (M2.1 14 12), M2.2) 25 12 4).1 1 14 (M2.1 14 14), M2.2) 26 13 32) := (((((((((((hA.tr (he2.mono (by decide) (by simp)))).up (c := 1) (by decide)).up (c := 1) (by decide)).up (c := 1) (by decide)).cpy (b := 10) (by decide)).up (c := 1) (by decide)).cpy (b := 11) (by decide)).up (c := 1) (by decide)).cpy (b := 12) (by decide)).up (c := 1) (by decide)).cpy (b := 13) (by decide)
      have yc : ∀ c, c ∉ f_SC 1 → M2.1 c = M.1 c := fun c hc => (hA.tr (he2.mono (by decide) (by simp))).1 c hc
      have ex : ∀ i, M2.1 1 i = (f_up (f_up M.1 1 0 (M.1 14 0)) 1 4 (M.1 14 4)) 1 i := fun i => by rw [he2.1 1 (by decide)]; rfl
      refine f_run_ok (stop := fun q => false) hX 60 _ _ _ _ _ ?_
      refine hsp (f_cpy (f_up (f_cpy (f_up (f_cpy (f_up (f_cpy (f_up (f_up (f_up M2.1 1 6 (M2.1 14 6)) 1 7 (M2.1 14 7)) 1 8 (M2.1 14 8), M2.2) 23 10 100).1 1 10 (M2.1 14 10), M2.2) 24 11 10).1 1 12 (M2.1 14 12), M2.2) 25 12 4).1 1 14 (M2.1 14 14), M2.2) 26 13 32) hB ?_
      obtain ⟨⟨a1, a2, a3, a4, a5, a6, a7, a8⟩, ⟨b1, b2, b3, b4, b5, b6, b7⟩, c1, c2, c3⟩ := hC
      obtain ⟨y1, y2, y3, y4, y5⟩ := hcy
      refine ⟨⟨?_, ?_, ?_, ?_, ?_, ?_, ?_, ?_⟩, ⟨fun i hi => ?_, fun i hi => ?_, fun i hi => ?_, fun i hi => ?_, fun i hi => ?_, fun i hi => ?_, fun i hi => ?_⟩, ?_, ?_, ?_⟩
      · exact (ex 0).trans a1
      · exact (ex 4).trans a2
      · show M2.1 14 6 = _; rw [yc 14 (by decide)]; exact a3
      · show M2.1 14 7 = _; rw [yc 14 (by decide)]; exact a4
      · show M2.1 14 8 = _; rw [yc 14 (by decide)]; exact a5
      · show M2.1 14 10 = _; rw [yc 14 (by decide)]; exact a6
      · show M2.1 14 12 = _; rw [yc 14 (by decide)]; exact a7
      · show M2.1 14 14 = _; rw [yc 14 (by decide)]; exact a8
      · show M2.1 2 i = _; rw [he2.1 2 (by decide)]; exact (if_pos hi).trans (b1 i hi)
      · show M2.1 3 i = _; rw [he2.1 3 (by decide)]; exact (if_pos hi).trans (b2 i hi)
      · show M2.1 4 i = _; rw [he2.1 4 (by decide)]; exact (if_pos hi).trans (b3 i hi)
      · show (if i < 100 then M2.1 23 i else M2.1 10 i) = _; rw [if_pos hi, yc 23 (by decide)]; exact b4 i hi
      · show (if i < 10 then M2.1 24 i else M2.1 11 i) = _; rw [if_pos hi, yc 24 (by decide)]; exact b5 i hi
      · show (if i < 4 then M2.1 25 i else M2.1 12 i) = _; rw [if_pos hi, yc 25 (by decide)]; exact b6 i hi
      · show (if i < 32 then M2.1 26 i else M2.1 13 i) = _; rw [if_pos hi, yc 26 (by decide)]; exact b7 i hi
      · exact (y1 0 (by omega)).trans c1
      · exact (y1 1 (by omega)).trans c2
      · obtain ⟨d1, d2, d3, d4⟩ := c3
        refine ⟨d1, d2, (y1 2 (by omega)).trans d3, fun r q hq => ?_⟩
        obtain ⟨q1, q2, q3, q4, q5, q6⟩ := d4 r q hq
        have hr : r < k.2.2.2.2.length := (List.getElem?_eq_some_iff.mp hq).1
        have hbs := f_beg_succ k.2.2.2.2 r q hq
        have hm := f_beg_mono k.2.2.2.2 k.2.2.2.2.length (r + 1) (by omega)
        refine ⟨(y2 r (by omega)).trans q1, (y3 r (by omega)).trans q2, q3, (y4 r (by omega)).trans q4, q5, fun j t hj => ?_⟩
        have hjl := (List.getElem?_eq_some_iff.mp hj).1
        exact (y5 _ (by omega)).trans (q6 j t hj)
    · have hA : f_ex (f_SC 14) [] M (f_up (f_cpy (f_cpy (f_cpy (f_up M.1 14 0 (M.1 1 0), M.2) 2 15 6) 3 16 6) 4 17 24).1 14 4 (M.1 1 4), M.2) := (((((f_ex.rf (cs := f_SC 14) (ds := []) (M := M)).up (c := 14) (by decide)).cpy (b := 15) (by decide)).cpy (b := 16) (by decide)).cpy (b := 17) (by decide)).up (c := 14) (by decide)
      refine f_run_ok (stop := fun q => Nat.beq q 60) hX 60 _ _ _ _ _ ?_
      refine ⟨rfl, by decide, fun M2 he2 hcy => ?_⟩
      have he2 : f_ex [18, 19, 20, 21, 22] [] (f_up (f_cpy (f_cpy (f_cpy (f_up M.1 14 0 (M.1 1 0), M.2) 2 15 6) 3 16 6) 4 17 24).1 14 4 (M.1 1 4), M.2) M2 := he2
      have hcy : f_cy 18 5 (f_up (f_cpy (f_cpy (f_cpy (f_up M.1 14 0 (M.1 1 0), M.2) 2 15 6) 3 16 6) 4 17 24).1 14 4 (M.1 1 4), M.2) M2 := hcy
      have hB : f_ex (f_SC 14) [] M (f_cpy (f_up (f_cpy (f_up (f_cpy (f_up (f_cpy (f_up (f_up (f_up M2.1 14 6 (M2.1 1 6)) 14 7 (M2.1 1 7)) 14 8 (M2.1 1 8), M2.2) 10 23 100).1 14 10 (M2.1 1 10), M2.2) 11 24 10).1 14 12 (M2.1 1 12), M2.2) 12 25 4).1 14 14 (M2.1 1 14), M2.2) 13 26 32) := (((((((((((hA.tr (he2.mono (by decide) (by simp)))).up (c := 14) (by decide)).up (c := 14) (by decide)).up (c := 14) (by decide)).cpy (b := 23) (by decide)).up (c := 14) (by decide)).cpy (b := 24) (by decide)).up (c := 14) (by decide)).cpy (b := 25) (by decide)).up (c := 14) (by decide)).cpy (b := 26) (by decide)
      have yc : ∀ c, c ∉ f_SC 14 → M2.1 c = M.1 c := fun c hc => (hA.tr (he2.mono (by decide) (by simp))).1 c hc
      have ex : ∀ i, M2.1 14 i = (f_up (f_up M.1 14 0 (M.1 1 0)) 14 4 (M.1 1 4)) 14 i := fun i => by rw [he2.1 14 (by decide)]; rfl
      refine f_run_ok (stop := fun q => false) hX 60 _ _ _ _ _ ?_
      refine hsp (f_cpy (f_up (f_cpy (f_up (f_cpy (f_up (f_cpy (f_up (f_up (f_up M2.1 14 6 (M2.1 1 6)) 14 7 (M2.1 1 7)) 14 8 (M2.1 1 8), M2.2) 10 23 100).1 14 10 (M2.1 1 10), M2.2) 11 24 10).1 14 12 (M2.1 1 12), M2.2) 12 25 4).1 14 14 (M2.1 1 14), M2.2) 13 26 32) hB ?_
      obtain ⟨⟨a1, a2, a3, a4, a5, a6, a7, a8⟩, ⟨b1, b2, b3, b4, b5, b6, b7⟩, c1, c2, c3⟩ := hC
      obtain ⟨y1, y2, y3, y4, y5⟩ := hcy
      refine ⟨⟨?_, ?_, ?_, ?_, ?_, ?_, ?_, ?_⟩, ⟨fun i hi => ?_, fun i hi => ?_, fun i hi => ?_, fun i hi => ?_, fun i hi => ?_, fun i hi => ?_, fun i hi => ?_⟩, ?_, ?_, ?_⟩
      · exact (ex 0).trans a1
      · exact (ex 4).trans a2
      · show M2.1 1 6 = _; rw [yc 1 (by decide)]; exact a3
      · show M2.1 1 7 = _; rw [yc 1 (by decide)]; exact a4
      · show M2.1 1 8 = _; rw [yc 1 (by decide)]; exact a5
      · show M2.1 1 10 = _; rw [yc 1 (by decide)]; exact a6
      · show M2.1 1 12 = _; rw [yc 1 (by decide)]; exact a7
      · show M2.1 1 14 = _; rw [yc 1 (by decide)]; exact a8
      · show M2.1 15 i = _; rw [he2.1 15 (by decide)]; exact (if_pos hi).trans (b1 i hi)
      · show M2.1 16 i = _; rw [he2.1 16 (by decide)]; exact (if_pos hi).trans (b2 i hi)
      · show M2.1 17 i = _; rw [he2.1 17 (by decide)]; exact (if_pos hi).trans (b3 i hi)
      · show (if i < 100 then M2.1 10 i else M2.1 23 i) = _; rw [if_pos hi, yc 10 (by decide)]; exact b4 i hi
      · show (if i < 10 then M2.1 11 i else M2.1 24 i) = _; rw [if_pos hi, yc 11 (by decide)]; exact b5 i hi
      · show (if i < 4 then M2.1 12 i else M2.1 25 i) = _; rw [if_pos hi, yc 12 (by decide)]; exact b6 i hi
      · show (if i < 32 then M2.1 13 i else M2.1 26 i) = _; rw [if_pos hi, yc 13 (by decide)]; exact b7 i hi
      · exact (y1 0 (by omega)).trans c1
      · exact (y1 1 (by omega)).trans c2
      · obtain ⟨d1, d2, d3, d4⟩ := c3
        refine ⟨d1, d2, (y1 2 (by omega)).trans d3, fun r q hq => ?_⟩
        obtain ⟨q1, q2, q3, q4, q5, q6⟩ := d4 r q hq
        have hr : r < k.2.2.2.2.length := (List.getElem?_eq_some_iff.mp hq).1
        have hbs := f_beg_succ k.2.2.2.2 r q hq
        have hm := f_beg_mono k.2.2.2.2 k.2.2.2.2.length (r + 1) (by omega)
        refine ⟨(y2 r (by omega)).trans q1, (y3 r (by omega)).trans q2, q3, (y4 r (by omega)).trans q4, q5, fun j t hj => ?_⟩
        have hjl := (List.getElem?_eq_some_iff.mp hj).1
        exact (y5 _ (by omega)).trans (q6 j t hj)
set_option maxRecDepth 20000 in
theorem m_x_image : f_Meets 1 (kX11_image S_stc) (f_x0 p_image) := by
  intro G As M R hsp X hX hW
  match As, hsp with
  | [.ref 0], ⟨s, hG, hS, hR, hsp⟩ =>
    subst hG
    refine f_run_ok (stop := fun q => false) hX 40 _ _ _ _ _ ?_
    refine ⟨s.1, 13, 0, rfl, Or.inr ⟨rfl, rfl, rfl, rfl⟩, hR.1, hS.1, fun M1 he1 hc1 => ?_⟩
    have ec : ∀ c, c < 14 ∨ 27 ≤ c → M1.1 c = M.1 c := fun c hc => he1.1 c (by
      intro z
      have : ∀ c, c ∈ f_SC 14 → 14 ≤ c ∧ c ≤ 26 := by decide
      have := this c z
      omega)
    obtain ⟨h1, h2, h3, ⟨h4, h5⟩, h6⟩ := hR
    refine ⟨Or.inr rfl, ?_⟩
    refine f_fin (hsp (f_up M1.1 0 2 1, M1.2) ⟨?_, rfl, fun k hk => ?_, ⟨?_, fun i y hi hy => ?_⟩, fun i hi => ?_⟩) ?_ rfl
    · refine h1.cg (fun c _ _ => ?_)
      show f_up M1.1 0 2 1 (c + 0) = _
      rw [f_up_ne (by omega), ec _ (by omega)]
    · have hk : some s.1 = some k := hk
      cases hk
      refine hc1.cg (fun c _ _ => ?_)
      show f_up M1.1 0 2 1 (c + 13) = _
      rw [f_up_ne (by omega)]
    · show M1.1 52 0 = _; rw [ec 52 (by omega)]; exact h4
    · show M1.1 53 i = _; rw [ec 53 (by omega)]; exact h5 i y hi hy
    · show M1.1 42 i = _; rw [ec 42 (by omega)]; exact h6 i hi
    · show some (Value.int (nI (s.1.1 0 0))) = some (Value.int (M1.1 1 0))
      rw [ec 1 (by omega)]
      exact congrArg (fun z => some (Value.int z)) h1.1.1.symm
set_option maxRecDepth 20000 in
theorem m_x_undo : f_Meets 1 (kX11_undo S_stc) (f_x0 p_undo) := by
  intro G As M R hsp X hX hW
  match As, hsp with
  | [.ref 0], ⟨s, hG, hS, hR, hsp⟩ =>
    subst hG
    unfold p_undo at hsp
    refine f_run_ok (stop := fun q => Nat.beq q 10) hX 40 _ _ _ _ _ ?_
    have hi := hR.2.1
    cases hs : s.2.1 with
    | none =>
      rw [hs] at hsp hi
      refine And.intro (fun _ => hsp M hR) (fun z => absurd hi z)
    | some k =>
      rw [hs] at hsp hi
      refine And.intro (fun z => absurd (show (1 : Int32) = 0 from hi.symm.trans z) (by decide)) (fun _ => ?_)
      refine f_run_ok (stop := fun q => false) hX 40 _ _ _ _ _ ?_
      have hck := hR.2.2.1 k hs
      refine ⟨k, 0, 13, rfl, Or.inl ⟨rfl, rfl, rfl, rfl⟩, hck, hS.2.1 k hs, fun M1 he1 hc1 => ?_⟩
      have ec : ∀ c, c < 1 ∨ 14 ≤ c → M1.1 c = M.1 c := fun c hc => he1.1 c (by
        intro z
        have : ∀ c, c ∈ f_SC 1 → 1 ≤ c ∧ c ≤ 13 := by decide
        have := this c z
        omega)
      obtain ⟨h1, h2, h3, ⟨h4, h5⟩, h6⟩ := hR
      refine f_fin (hsp M1 ⟨hc1, ?_, fun k' hk' => ?_, ⟨?_, fun i y hi hy => ?_⟩, fun i hi => ?_⟩) ?_ rfl
      · show M1.1 0 2 = _; rw [ec 0 (by omega)]; exact hi
      · have hk' : some k = some k' := hk'
        cases hk'
        exact hck.cg (fun c _ _ => ec _ (by omega))
      · rw [ec 52 (by omega)]; exact h4
      · rw [ec 53 (by omega)]; exact h5 i y hi hy
      · rw [ec 42 (by omega)]; exact h6 i hi
      · show some (Value.int (nI (k.1 0 0))) = some (Value.int (M1.1 1 0))
        exact congrArg (fun z => some (Value.int z)) hc1.1.1.symm
