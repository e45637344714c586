/-! ===== the reference: until ===== -/
def f_vo (a b : Nat) : Nat × Nat := (a / Nat.gcd a b, b / Nat.gcd a b)
def f_va (m n u l : Nat) : Nat × Nat := if n ≤ m then (1, 1) else f_vo (2 * u) (l * (n - 1))
def f_vs (m : Nat) : Nat → Nat × Nat
  | 0 => (0, 1)
  | n + 1 => f_vo ((f_vs m n).1 * (f_va m (n + 1) (f_vs m n).1 (f_vs m n).2).2 + (f_va m (n + 1) (f_vs m n).1 (f_vs m n).2).1 * (f_vs m n).2) ((f_vs m n).2 * (f_va m (n + 1) (f_vs m n).1 (f_vs m n).2).2)
def f_vf (m n : Nat) : Nat × Nat := f_va m n (f_vs m (n - 1)).1 (f_vs m (n - 1)).2
theorem f_vs_b : ∀ m, m < 17 → ∀ n, n < 18 → 1 ≤ m → (f_vs m n).1 < 1000 ∧ 1 ≤ (f_vs m n).2 ∧ (f_vs m n).2 < 1000 ∧ 1 ≤ (f_vf m (n + 1)).1 ∧ (f_vf m (n + 1)).1 < 1000 ∧ 1 ≤ (f_vf m (n + 1)).2 ∧ (f_vf m (n + 1)).2 < 1000 := by decide +kernel
theorem f_vf_ok : ∀ m, m < 17 → ∀ n, n < 18 → 1 ≤ m → 1 ≤ n → f_vf m n = if m < n then f_vo (2 * n) (m + 1) else (1, 1) := by decide +kernel
theorem f_vpart (a b : Nat) : f_part a b 0 = lN (f_vo a b).1 ∧ f_part a b 1 = lN (f_vo a b).2 := ⟨rfl, rfl⟩
set_option maxRecDepth 20000 in
theorem m_y_until : f_Meets 12 (kX12_until S_in S_lo S_partOf) (f_y2 p_until) := by
  intro G As M R hsp X hX hW
  match As, hsp with
  | [.ref 100, .int m, .int p], ⟨s, hG, hS, hR, hsp⟩ =>
    subst hG
    unfold p_until at hsp
    have hL17 := hS.L17
    have hL2 := hS.L2
    have pt : f_pt1 p = decide (0 ≤ p ∧ p ≤ 1) := by
      unfold f_pt1
      refine decide_eq_decide.mpr ⟨fun z => ?_, fun z => ?_⟩
      · rcases z with z | z <;> (rw [z]; decide)
      · obtain ⟨P, hPb, rfl⟩ := nI_of (x := p) (Int32.not_lt.mpr z.1)
        have := (nI_leI (b := 1) hPb (by omega)).mp z.2
        have : P = 0 ∨ P = 1 := by omega
        rcases this with rfl | rfl
        · exact Or.inl rfl
        · exact Or.inr rfl
    have bad : (m < 1 ∨ 16 < m ∨ f_pt1 p = false) → X f_GM 19 [some (.ref 100), some (.int m), some (.int p), none, none, none, none, none, none, none, none, none] [] M := by
      intro h
      rw [if_pos h] at hsp
      exact f_run_ok (stop := fun _ => false) hX 10 _ _ _ _ _ (hsp M hR)
    refine f_run_ok (stop := fun q => Nat.beq q 19 || Nat.beq q 23) hX 40 _ _ _ _ _ ?_
    refine And.intro (fun h => ?_) (fun h => ?_)
    · exact bad ((f_inN h).elim Or.inl (fun z => Or.inr (Or.inl z)))
    have h := f_inY h
    refine And.intro (fun hz => ?_) (fun hz => ?_)
    · have hz : f_b (decide (0 ≤ p ∧ p ≤ 1)) = 0 := hz
      rw [← pt] at hz
      exact bad (Or.inr (Or.inr (f_b0.mp hz)))
    have hz : ¬ f_b (decide (0 ≤ p ∧ p ≤ 1)) = 0 := hz
    rw [← pt] at hz
    have hp : f_pt1 p = true := f_b_nt hz
    rw [if_neg (by rw [hp]; exact fun z => z.elim (Int32.not_lt.mpr h.1) (fun z => z.elim (Int32.not_lt.mpr h.2) (by decide)))] at hsp
    clear bad
    obtain ⟨m, hmb, rfl⟩ := nI_of (x := m) (fun z => absurd (Int32.lt_of_lt_of_le (show (0 : Int32) < 1 by decide) h.1) (Int32.not_lt.mpr (Int32.le_of_lt z)))
    have m1 := (nI_leI (a := 1) (by omega) hmb).mp h.1
    have m16 := (nI_leI (b := 16) hmb (by omega)).mp h.2
    rw [f_n_nI hmb] at hsp
    -- one turn: both rows are written
    have turn : ∀ (n : Nat) (M' : fMem) (o1 o2 : Option Value), n < s.1.2.2.1 → f_RM s M' → X f_GM 108 [some (.ref 100), some (.int (nI m)), some (.int p), some (.long (lN (f_vs m n).1)), none, some (.long (lN (f_vs m n).2)), none, some (.int (nI (n + 1))), o1, none, o2, none] [] (M'.1, f_upL (f_upL M'.2 110 (n + 1) (lN (f_vf m (n + 1)).1)) 111 (n + 1) (lN (f_vf m (n + 1)).2)) → X f_GM 31 [some (.ref 100), some (.int (nI m)), some (.int p), some (.long (lN (f_vs m n).1)), none, some (.long (lN (f_vs m n).2)), none, some (.int (nI (n + 1))), o1, none, o2, none] [] M' := by
      intro n M' o1 o2 hn r' hx
      obtain ⟨b1, b2, b3, _, _, _, _⟩ := f_vs_b m (by omega) n (by omega) m1
      obtain ⟨i1, i2⟩ := f_ix (z := nI (n + 1)) (n := 18) rfl (by omega) (by omega)
      refine f_run_ok (stop := fun q => Nat.beq q 108) hX 80 _ _ _ _ _ ?_
      refine ⟨s.1.2.2, rfl, r'.hr, ?_⟩
      refine And.intro (fun z => absurd ((nI_ltI (by omega) (by omega)).mp z) (by omega)) (fun _ => ?_)
      refine And.intro (fun z => ?_) (fun z => ?_)
      · have z2 := (nI_ltI (by omega) (by omega)).mp z
        have ef : f_vf m (n + 1) = f_vo (2 * (f_vs m n).1) ((f_vs m n).2 * n) := if_neg (by omega)
        have e1 : (2 : Int64) * lN (f_vs m n).1 = lN (2 * (f_vs m n).1) := lN_mul 2 _
        have e2 : lN (f_vs m n).2 * ((nI (n + 1)).toInt64 - 1) = lN ((f_vs m n).2 * n) := by
          rw [f_wide (by omega)]
          have : lN (n + 1) - 1 = lN n := by
            have hk : ∀ k, k < 20 → lN (k + 1) - 1 = lN k := by decide +kernel
            exact hk n (by omega)
          rw [this, lN_mul]
        have hpos : 0 < (f_vs m n).2 * n := Nat.mul_pos b2 (by omega)
        have hle : (f_vs m n).2 * n ≤ 1000 * 17 := Nat.mul_le_mul (by omega) (by omega)
        have a1 : 0 ≤ ((2 : Int64) * lN (f_vs m n).1).toInt := by rw [e1, pk_lT (by omega)]; omega
        have a2 : 0 < (lN (f_vs m n).2 * ((nI (n + 1)).toInt64 - 1)).toInt := by rw [e2, pk_lT (by omega)]; omega
        have c1 : ((2 : Int64) * lN (f_vs m n).1).toInt.toNat = 2 * (f_vs m n).1 := by rw [e1, pk_lT (by omega)]; rfl
        have c2 : (lN (f_vs m n).2 * ((nI (n + 1)).toInt64 - 1)).toInt.toNat = (f_vs m n).2 * n := by rw [e2, pk_lT (by omega)]; rfl
        refine ⟨a1, a2, And.intro i1 (And.intro (fun _ => ⟨a1, a2, And.intro i1 ?_⟩) (fun q => absurd z q))⟩
        show X f_GM 108 [some (.ref 100), some (.int (nI m)), some (.int p), some (.long (lN (f_vs m n).1)), none, some (.long (lN (f_vs m n).2)), none, some (.int (nI (n + 1))), o1, none, o2, none] [] (M'.1, f_upL (f_upL M'.2 110 (nI (n + 1)).toNatClampNeg (f_part ((2 : Int64) * lN (f_vs m n).1).toInt.toNat (lN (f_vs m n).2 * ((nI (n + 1)).toInt64 - 1)).toInt.toNat 0)) 111 (nI (n + 1)).toNatClampNeg (f_part ((2 : Int64) * lN (f_vs m n).1).toInt.toNat (lN (f_vs m n).2 * ((nI (n + 1)).toInt64 - 1)).toInt.toNat 1))
        rw [i2, c1, c2, (f_vpart _ _).1, (f_vpart _ _).2, ← ef]
        exact hx
      · have z2 : ¬ m < n + 1 := fun q => z (nI_lt q (by omega))
        have ef : f_vf m (n + 1) = (1, 1) := if_pos (by omega)
        refine And.intro i1 (And.intro (fun q => absurd q z) (fun _ => And.intro i1 ?_))
        show X f_GM 108 [some (.ref 100), some (.int (nI m)), some (.int p), some (.long (lN (f_vs m n).1)), none, some (.long (lN (f_vs m n).2)), none, some (.int (nI (n + 1))), o1, none, o2, none] [] (M'.1, f_upL (f_upL M'.2 110 (nI (n + 1)).toNatClampNeg 1) 111 (nI (n + 1)).toNatClampNeg 1)
        rw [ef] at hx
        rw [i2]
        exact hx
    have next : ∀ (n : Nat) (M' : fMem) (o1 o2 : Option Value), n < s.1.2.2.1 → M'.2 110 (n + 1) = lN (f_vf m (n + 1)).1 → M'.2 111 (n + 1) = lN (f_vf m (n + 1)).2 → (∀ o1 o2, X f_GM 31 [some (.ref 100), some (.int (nI m)), some (.int p), some (.long (lN (f_vs m (n + 1)).1)), none, some (.long (lN (f_vs m (n + 1)).2)), none, some (.int (nI (n + 2))), o1, none, o2, none] [] M') → X f_GM 108 [some (.ref 100), some (.int (nI m)), some (.int p), some (.long (lN (f_vs m n).1)), none, some (.long (lN (f_vs m n).2)), none, some (.int (nI (n + 1))), o1, none, o2, none] [] M' := by
      intro n M' o1 o2 hn h110 h111 hx
      obtain ⟨b1, b2, b3, b4, b5, b6, b7⟩ := f_vs_b m (by omega) n (by omega) m1
      obtain ⟨i1, i2⟩ := f_ix (z := nI (n + 1)) (n := 18) rfl (by omega) (by omega)
      have hvs : f_vs m (n + 1) = f_vo ((f_vs m n).1 * (f_vf m (n + 1)).2 + (f_vf m (n + 1)).1 * (f_vs m n).2) ((f_vs m n).2 * (f_vf m (n + 1)).2) := rfl
      rw [hvs] at hx
      have k1 : (f_vs m n).1 * (f_vf m (n + 1)).2 ≤ 1000 * 1000 := Nat.mul_le_mul (by omega) (by omega)
      have k2 : (f_vf m (n + 1)).1 * (f_vs m n).2 ≤ 1000 * 1000 := Nat.mul_le_mul (by omega) (by omega)
      have k3 : (f_vs m n).2 * (f_vf m (n + 1)).2 ≤ 1000 * 1000 := Nat.mul_le_mul (by omega) (by omega)
      have k4 : 0 < (f_vs m n).2 * (f_vf m (n + 1)).2 := Nat.mul_pos b2 b6
      have eb : lN (f_vs m n).1 * M'.2 111 (nI (n + 1)).toNatClampNeg + M'.2 110 (nI (n + 1)).toNatClampNeg * lN (f_vs m n).2 = lN ((f_vs m n).1 * (f_vf m (n + 1)).2 + (f_vf m (n + 1)).1 * (f_vs m n).2) := by
        rw [i2, h110, h111, lN_mul, lN_mul, lN_add]
      have el : lN (f_vs m n).2 * M'.2 111 (nI (n + 1)).toNatClampNeg = lN ((f_vs m n).2 * (f_vf m (n + 1)).2) := by
        rw [i2, h111, lN_mul]
      have x1 := hx (some (.long (lN ((f_vs m n).1 * (f_vf m (n + 1)).2 + (f_vf m (n + 1)).1 * (f_vs m n).2)))) (some (.long (lN ((f_vs m n).2 * (f_vf m (n + 1)).2))))
      have hB : (f_vs m n).1 * (f_vf m (n + 1)).2 + (f_vf m (n + 1)).1 * (f_vs m n).2 ≤ 2000000 := by omega
      generalize (f_vs m n).1 * (f_vf m (n + 1)).2 + (f_vf m (n + 1)).1 * (f_vs m n).2 = B at *
      generalize (f_vs m n).2 * (f_vf m (n + 1)).2 = D at *
      have a1 : 0 ≤ (lN (f_vs m n).1 * M'.2 111 (nI (n + 1)).toNatClampNeg + M'.2 110 (nI (n + 1)).toNatClampNeg * lN (f_vs m n).2).toInt := by rw [eb, pk_lT (by omega)]; omega
      have a2 : 0 < (lN (f_vs m n).2 * M'.2 111 (nI (n + 1)).toNatClampNeg).toInt := by rw [el, pk_lT (by omega)]; omega
      have c1 : (lN (f_vs m n).1 * M'.2 111 (nI (n + 1)).toNatClampNeg + M'.2 110 (nI (n + 1)).toNatClampNeg * lN (f_vs m n).2).toInt.toNat = B := by rw [eb, pk_lT (by omega)]; rfl
      have c2 : (lN (f_vs m n).2 * M'.2 111 (nI (n + 1)).toNatClampNeg).toInt.toNat = D := by rw [el, pk_lT (by omega)]; rfl
      refine f_run_ok (stop := fun q => Nat.beq q 31) hX 80 _ _ _ _ _ ?_
      refine And.intro i1 (And.intro i1 (And.intro i1 ⟨a1, a2, a1, a2, ?_⟩))
      show X f_GM 31 [some (.ref 100), some (.int (nI m)), some (.int p), some (.long (f_part (lN (f_vs m n).1 * M'.2 111 (nI (n + 1)).toNatClampNeg + M'.2 110 (nI (n + 1)).toNatClampNeg * lN (f_vs m n).2).toInt.toNat (lN (f_vs m n).2 * M'.2 111 (nI (n + 1)).toNatClampNeg).toInt.toNat 0)), none, some (.long (f_part (lN (f_vs m n).1 * M'.2 111 (nI (n + 1)).toNatClampNeg + M'.2 110 (nI (n + 1)).toNatClampNeg * lN (f_vs m n).2).toInt.toNat (lN (f_vs m n).2 * M'.2 111 (nI (n + 1)).toNatClampNeg).toInt.toNat 1)), none, some (.int (nI (n + 1) + 1)), some (.long (lN (f_vs m n).1 * M'.2 111 (nI (n + 1)).toNatClampNeg + M'.2 110 (nI (n + 1)).toNatClampNeg * lN (f_vs m n).2)), none, some (.long (lN (f_vs m n).2 * M'.2 111 (nI (n + 1)).toNatClampNeg)), none] [] M'
      rw [c1, c2, eb, el, (f_vpart B D).1, (f_vpart B D).2, ← nI_succ]
      exact x1
    have loop : ∀ (t n : Nat) (M' : fMem) (o1 o2 : Option Value), n + t = s.1.2.2.1 → f_em [110, 111] M M' → (0 < n → M'.2 110 n = lN (f_vf m n).1 ∧ M'.2 111 n = lN (f_vf m n).2) → X f_GM 31 [some (.ref 100), some (.int (nI m)), some (.int p), some (.long (lN (f_vs m n).1)), none, some (.long (lN (f_vs m n).2)), none, some (.int (nI (n + 1))), o1, none, o2, none] [] M' := by
      intro t
      induction t with
      | zero =>
        intro n M' o1 o2 hn he hv
        have r' := hR.em he (by decide)
        have hn : n = s.1.2.2.1 := by omega
        obtain ⟨v1, v2⟩ := hv (by omega)
        have hok := f_vf_ok m (by omega) n (by omega) m1 (by omega)
        obtain ⟨i1, i2⟩ := f_ix (z := nI s.1.2.2.1) (n := 18) rfl (by omega) (by omega)
        have fin : ∀ w : Int64, (w = if p = 0 then lN (f_vf m n).1 else lN (f_vf m n).2) → R f_GM (some (.long w)) M' := by
          intro w hw
          by_cases hlt : m < s.1.2.2.1
          · rw [if_pos hlt] at hsp
            rw [show f_vf m n = f_vo (2 * n) (m + 1) by rw [hok, if_pos (show m < n by omega)]] at hw
            have e : f_part (2 * s.1.2.2.1) (m + 1) p = w := by
              rw [hw, ← hn]
              rcases of_decide_eq_true hp with q | q
              · rw [q, if_pos rfl]; exact (f_vpart _ _).1
              · rw [q, if_neg (by decide)]; exact (f_vpart _ _).2
            rw [e] at hsp
            exact hsp M' r'
          · rw [if_neg hlt] at hsp
            rw [show f_vf m n = (1, 1) by rw [hok, if_neg (show ¬ m < n by omega)]] at hw
            have e : w = 1 := by rw [hw]; split <;> rfl
            rw [e]
            exact hsp M' r'
        refine f_run_ok (stop := fun q => false) hX 40 _ _ _ _ _ ?_
        refine ⟨s.1.2.2, rfl, r'.hr, ?_⟩
        refine And.intro (fun _ => ?_) (fun z => absurd (nI_lt (by omega) (by omega)) z)
        refine And.intro (fun h0 => ?_) (fun h0 => ?_)
        · have h0 : p = 0 := h0
          refine ⟨s.1.2.2, rfl, r'.hr, And.intro i1 ?_⟩
          refine fin (M'.2 110 (nI s.1.2.2.1).toNatClampNeg) ?_
          rw [i2, if_pos h0, ← hn, v1]
        · have h0 : ¬ p = 0 := h0
          refine ⟨s.1.2.2, rfl, r'.hr, And.intro i1 ?_⟩
          refine fin (M'.2 111 (nI s.1.2.2.1).toNatClampNeg) ?_
          rw [i2, if_neg h0, ← hn, v2]
      | succ t ih =>
        intro n M' o1 o2 hn he hv
        have r' := hR.em he (by decide)
        refine turn n M' o1 o2 (by omega) r' ?_
        refine next n _ o1 o2 (by omega) ?_ ?_ (fun o1 o2 => ih (n + 1) _ o1 o2 (by omega) ((he.uL (c := 110) (by decide)).uL (c := 111) (by decide)) (fun _ => ⟨?_, ?_⟩))
        all_goals first
          | rfl
          | (show (if n + 1 = n + 1 then _ else _) = _; rw [if_pos rfl])
    refine f_run_ok (stop := fun q => Nat.beq q 31) hX 40 _ _ _ _ _ ?_
    exact loop s.1.2.2.1 0 M none none (by omega) f_em.rf (fun z => absurd z (Nat.lt_irrefl 0))
