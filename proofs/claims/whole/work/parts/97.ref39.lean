/-! ===== the reference: a yard is read: clauseHere ===== -/
theorem f_mc_p {T : Nat → Nat} {n p i : Nat} (hp : p ≤ n) : p ≤ (f_mc T n p i).2.1 ∧ (f_mc T n p i).2.1 ≤ n := by
  have hh := f_hdw_p (T := T) (n := n) (c := 0) (w := f_swd i) hp
  unfold f_mc
  split
  · split
    · rename_i h32
      have := f_pe_good T n 5 ((f_hdw T n 0 (f_swd i) p).2.1 + 1) [] (f_is_lt h32)
      exact ⟨by show p ≤ (f_pe T n (f_pf T n 5) _ []).2.1; omega, this.2.1⟩
    · exact ⟨hh.1, hh.2.1⟩
  · exact ⟨hh.1, hh.2.1⟩
set_option maxRecDepth 20000 in
theorem m_clh : f_Meets 1 (kX12_clauseHere S_he S_tel S_mch) S_clh := by
  intro G As M R hsp X hX hW
  match As, hsp with
  | [.ref 100], ⟨T, n, p, a, y, hG, hY, ⟨⟨l, m, hl1, hl2, hl3, hm1, hm2, hm3⟩, hC⟩, hb, hsp⟩ =>
    subst hG
    have hT := hY.lt
    have hpn := hY.2.2.2.1
    have a5 := hY.2.1
    have eqv : ∀ c, c < 1000 → (f_sg T n p = nI c ↔ f_is T n p c = true) := fun c hc => f_sg_eq hT hc
    -- a number
    have num : ∀ (i c : Nat) (pc : Nat) (ls : List (Option Value)), (c = 108 ∧ i = 0 ∨ c = 99 ∧ i = 1) → f_head T n p = f_hdw T n c (f_swd i) p → (∀ M', R f_GM none M' → X f_GM pc ls [] M') → S_tel f_GM [.ref 100, .int (nI (f_whr i)), .ref (2000 + i)] M (fun G' v M' => X G' pc ls (f_ans v []) M') := by
      intro i c pc ls hc hh K
      have hhp := f_hdw_p (T := T) (n := n) (c := 0) (w := f_swd i) hpn
      rw [f_cl_num hc hh] at hsp
      refine ⟨T, n, p, a, i, rfl, by omega, rfl, rfl, hY, fun M' hq hY' hv => K M' (hsp M' (hq.mono (fun k hk => ?_)) hY' (fun g => ?_))⟩
      · unfold f_whr at hk
        split at hk
        · exact Or.inl hk
        · exact Or.inr (Or.inl hk)
      · have g : (f_hdw T n 0 (f_swd i) p).1 = true := g
        have hv := hv g
        rw [if_pos g]
        have hC' : f_YC M' a (f_rsL y.2.2) := by
          refine ⟨(hq.2 _ ?_).trans hC.1, fun j x hx => (hq.2 _ ?_).trans (hC.2 j x hx)⟩
          · unfold f_whr; split <;> omega
          · unfold f_whr; split <;> omega
        rcases hc with ⟨rfl, rfl⟩ | ⟨rfl, rfl⟩
        · rw [if_pos rfl]
          refine ⟨⟨⟨(f_hdw T n 0 (f_swd 0) p).2.2.2, m, hv, hhp.2.2.1, rfl, (hq.2 _ ?_).trans hm1, hm2, hm3⟩, hC'⟩, by show (f_rsL y.2.2).length ≤ (f_hdw T n 0 (f_swd 0) p).2.1; omega⟩
          show ¬ 196 + a = 191 + a
          omega
        · rw [if_neg (by decide)]
          refine ⟨⟨⟨l, (f_hdw T n 0 (f_swd 1) p).2.2.2, (hq.2 _ ?_).trans hl1, hl2, hl3, hv, hhp.2.2.1, rfl⟩, hC'⟩, by show (f_rsL y.2.2).length ≤ (f_hdw T n 0 (f_swd 1) p).2.1; omega⟩
          show ¬ 191 + a = 196 + a
          omega
    -- a rule
    have rule : ∀ (i c : Nat) (z : Int32) (pc : Nat) (ls : List (Option Value)), (c = 104 ∧ i = 2 ∨ c = 112 ∧ i = 3) → ((i = 2 ∧ z = -10) ∨ (i = 3 ∧ z = -200)) → f_head T n p = f_hdw T n c (f_swd i) p → (∀ M', R f_GM none M' → X f_GM pc ls [] M') → S_mch f_GM [.ref 100, .int z, .ref (2000 + i)] M (fun G' v M' => X G' pc ls (f_ans v []) M') := by
      intro i c z pc ls hc hz hh K
      rw [f_cl_rule hc hh] at hsp
      refine ⟨T, n, p, a, i, f_rsL y.2.2, rfl, hz, rfl, hY, hC, hb, fun M' hq hY' hv => K M' (hsp M' (hq.mono (fun k hk => Or.inr (Or.inr hk))) hY' (fun g => ?_))⟩
      have g : (f_mc T n p i).1 = true := g
      obtain ⟨v1, v2⟩ := hv g
      rw [if_pos g]
      have nz : ∀ k, k = 191 + a ∨ k = 196 + a → ¬ f_zs a k := fun k hk z => by
        rcases z with z | z <;> omega
      refine ⟨⟨⟨l, m, (hq.2 _ (nz _ (Or.inl rfl))).trans hl1, hl2, hl3, (hq.2 _ (nz _ (Or.inr rfl))).trans hm1, hm2, hm3⟩, ?_⟩, ?_⟩
      · show f_YC M' a (f_rsL (y.2.2 ++ [(decide (i = 3), (f_mc T n p i).2.2.1, (f_mc T n p i).2.2.2)]))
        rw [f_rsL_app, ← List.append_assoc]
        exact v1
      · show (f_rsL (y.2.2 ++ [(decide (i = 3), (f_mc T n p i).2.2.1, (f_mc T n p i).2.2.2)])).length ≤ (f_mc T n p i).2.1
        rw [f_rsL_app, List.length_append, List.length_append, List.length_map]
        show (f_rsL y.2.2).length + ((f_mc T n p i).2.2.2.length + 1) ≤ _
        omega
    have ret : ∀ M', R f_GM none M' → X f_GM 100 [some (.ref 100)] [] M' := fun M' h => f_run_ok (stop := fun q => false) hX 10 _ _ _ _ _ h
    refine f_run_ok (stop := fun q => Nat.beq q 100) hX 40 _ _ _ _ _ ?_
    refine ⟨T, n, p, a, false, 0, rfl, hY, ?_⟩
    refine And.intro (fun h => ?_) (fun g1 => And.intro (fun h => ?_) (fun g2 => And.intro (fun h => ?_) (fun g3 => And.intro (fun h => ?_) (fun g4 => ?_))))
    · have h := (eqv 99 (by omega)).mp h
      exact num 1 99 _ _ (Or.inr ⟨rfl, rfl⟩) (by unfold f_head; rw [if_neg (by rw [f_is_ne h (d := 108) (by decide)]; decide), if_pos h]; rfl) ret
    · have h := (eqv 104 (by omega)).mp h
      exact rule 2 104 _ _ _ (Or.inl ⟨rfl, rfl⟩) (Or.inl ⟨rfl, rfl⟩) (by unfold f_head; rw [if_neg (by rw [f_is_ne h (d := 108) (by decide)]; decide), if_neg (by rw [f_is_ne h (d := 99) (by decide)]; decide), if_pos h]; rfl) ret
    · have h := (eqv 108 (by omega)).mp h
      exact num 0 108 _ _ (Or.inl ⟨rfl, rfl⟩) (by unfold f_head; rw [if_pos h]; rfl) ret
    · have h := (eqv 112 (by omega)).mp h
      exact rule 3 112 _ _ _ (Or.inr ⟨rfl, rfl⟩) (Or.inr ⟨rfl, rfl⟩) (by unfold f_head; rw [if_neg (by rw [f_is_ne h (d := 108) (by decide)]; decide), if_neg (by rw [f_is_ne h (d := 99) (by decide)]; decide), if_neg (by rw [f_is_ne h (d := 104) (by decide)]; decide), if_pos h]; rfl) ret
    · have n1 : ¬ f_is T n p 99 = true := fun z => g1 ((eqv 99 (by omega)).mpr z)
      have n2 : ¬ f_is T n p 104 = true := fun z => g2 ((eqv 104 (by omega)).mpr z)
      have n3 : ¬ f_is T n p 108 = true := fun z => g3 ((eqv 108 (by omega)).mpr z)
      have n4 : ¬ f_is T n p 112 = true := fun z => g4 ((eqv 112 (by omega)).mpr z)
      have hh : f_head T n p = (false, p, 0, 0) := by unfold f_head; rw [if_neg n3, if_neg n1, if_neg n2, if_neg n4]
      have hcl : f_cl T n p y = (false, p, y) := by
        unfold f_cl
        rw [hh]
        rfl
      rw [hcl] at hsp
      refine And.intro (Or.inr rfl) ?_
      exact ret _ (hsp _ (f_yq.of (f_em.rf.uf (k := 7) (v := f_b true) (by decide))) (hY.wr true) (fun z => absurd z Bool.false_ne_true))
/-- the tests that are read have one of five letters -/
def f_t15 (C : List Nat) : Prop := ∀ t ∈ C, t < 1500 ∨ 2000 ≤ t
theorem f_t15.app {C : List Nat} {t : Nat} (h : f_t15 C) (ht : t < 1500 ∨ 2000 ≤ t) : f_t15 (C ++ [t]) := by
  intro x hx
  rcases List.mem_append.mp hx with z | z
  · exact h x z
  · rw [List.mem_singleton] at z; rw [z]; exact ht
def f_k15 (F : Nat → List Nat → fRs) : Prop := ∀ p C, f_t15 C → f_t15 (F p C).2.2
theorem f_ptst_15 (T : Nat → Nat) (n : Nat) : f_k15 (f_ptst T n) := by
  intro p C h
  unfold f_ptst
  cases h1 : f_let T n p with
  | none => exact h
  | some a =>
    have := f_let_ok h1
    cases h2 : f_cm T n (p + 1) with
    | none => simp only [h2]; exact h
    | some b =>
      have := f_cm_ok h2
      cases h3 : f_num T n (p + 2) with
      | none => simp only [h2, h3]; exact h
      | some r =>
        obtain ⟨v, q⟩ := r
        have := f_num_ok h3
        simp only [h2, h3]
        exact h.app (Or.inl (by omega))
theorem f_rep_15 {T : Nat → Nat} {n ch op : Nat} {sub : Nat → List Nat → fRs} (ho : 2000 ≤ op) (hs : f_k15 sub) : ∀ k, f_k15 (f_rep T n ch op sub k) := by
  intro k
  induction k with
  | zero => intro p C h; exact h
  | succ k ih =>
    intro p C h
    unfold f_rep
    split
    · split
      · exact ih _ _ ((hs _ _ h).app (Or.inr ho))
      · exact hs _ _ h
    · exact h
theorem f_ser_15 {T : Nat → Nat} {n ch op : Nat} {sub : Nat → List Nat → fRs} (ho : 2000 ≤ op) (hs : f_k15 sub) : f_k15 (f_ser T n ch op sub) := by
  intro p C h
  unfold f_ser
  split
  · exact f_rep_15 ho hs 100 _ _ (hs _ _ h)
  · exact hs _ _ h
theorem f_pe_15 {T : Nat → Nat} {n : Nat} {fac : Nat → List Nat → fRs} (h : f_k15 fac) : f_k15 (f_pe T n fac) := f_ser_15 (by decide) (f_ser_15 (by decide) h)
theorem f_pf_15 (T : Nat → Nat) (n : Nat) : ∀ o, f_k15 (f_pf T n o) := by
  intro o
  induction o with
  | zero =>
    intro p C h
    unfold f_pf
    split
    · exact h
    · exact f_ptst_15 T n p C h
  | succ o ih =>
    intro p C h
    unfold f_pf
    split
    · split
      · split
        · exact f_pe_15 ih _ _ h
        · exact f_pe_15 ih _ _ h
      · exact f_pe_15 ih _ _ h
    · split
      · split
        · exact (ih _ _ h).app (Or.inr (by decide))
        · exact ih _ _ h
      · exact f_ptst_15 T n p C h
