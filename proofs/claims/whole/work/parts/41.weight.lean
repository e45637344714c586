/-! ===== weights of ends ===== -/
theorem f_pcs_ne (L br : Nat) : ∀ (n p f : Nat), p + n = L + 1 → p ≤ L → 0 < (f_pcs L br n p f).length := by
  intro n
  induction n with
  | zero => intro p f h h1; omega
  | succ n ih =>
    intro p f h h1
    unfold f_pcs
    split
    · rw [List.length_cons]; omega
    · rename_i hc
      exact ih (p + 1) f (by omega) (by
        have : ¬ p = L := fun z => hc (Or.inl z)
        omega)
theorem f_shp_ne {L br : Nat} (h : 1 ≤ L) : 0 < (f_shp L br).length := by
  unfold f_shp
  rw [f_srt_len, List.length_map]
  exact f_pcs_ne L br L 1 0 (by omega) h
def f_wsum (w : Nat → Nat) (g : Nat → Nat) : Nat → Nat
  | 0 => 0
  | n + 1 => f_wsum w g n + (if w n = 0 then 0 else w n * g (f_set n))
def S_wgt : fSp := fun G As M R => match As with
  | [.ref 41, .int zw, .int zn] => ∃ (L wh n : Nat) (w : Nat → Nat), G = f_GX ∧ zw = nI wh ∧ wh < 7 ∧ zn = nI n ∧ n < 1000 ∧ M.1 5 0 = nI L ∧ 1 ≤ L ∧ L ≤ 17 ∧ f_SE M ∧ f_WT M w ∧ (∀ i, i < 697 → w i < 2 ^ 63) ∧ (∀ M', f_ex [39, 40] [] M M' → R G (some (.long (lN (f_wsum w (fun S => if f_fit (f_shp L S) L wh n = true then 1 else 0) 697)))) M')
  | _ => False
set_option maxRecDepth 20000 in
theorem m_wgt : f_Meets 8 (kX2_weightOf S_longAt S_at S_lay S_fit) S_wgt := by
  intro G As M R hsp X hX hW
  match As, hsp with
  | [.ref 41, .int zw, .int zn], ⟨L, wh, n, w, hG, hzw, hwh, hzn, hn, hL, hL1, hL17, hSE, hw, hwb, hsp⟩ =>
    subst hG; subst hzw; subst hzn
    generalize hg : (fun S => if f_fit (f_shp L S) L wh n = true then 1 else 0) = g at hsp
    have loop : ∀ (d j : Nat) (M' : fMem) (u : Option Value), d + j = 697 → f_ex [39, 40] [] M M' → X f_GX 5 [some (.ref 41), some (.int (nI wh)), some (.int (nI n)), some (.long (lN (f_wsum w g j))), none, some (.int (nI j)), u, none] [] M' := by
      intro d
      induction d with
      | zero =>
        intro j M' u hd he
        have hd : j = 697 := by omega
        subst hd
        refine f_run_ok (stop := fun q => false) hX 30 _ _ _ _ _ ?_
        exact And.intro (fun h => hsp M' he) (fun h => absurd ((nI_leI (a := 697) (b := 697) (by omega) (by omega)).mpr (by omega)) h)
      | succ d ih =>
        intro j M' u hd he
        have hwj : M'.2 43 j = lN (w j) := by rw [he.2 43 (by decide)]; exact hw j (by omega)
        have hset : M'.1 42 j = nI (f_set j) := by rw [he.1 42 (by decide)]; exact hSE j (by omega)
        have ha : f_atL 697 (M'.2 43) (nI j) = lN (w j) := by rw [f_atL_in (by omega) (by decide), hwj]
        have hb : f_at (697, M'.1 42) (nI j) = nI (f_set j) := by rw [f_at_in (t := (697, M'.1 42)) (by show j < 697; omega) (by show 697 < 2 ^ 31; decide)]; exact hset
        have hso := f_set_ok (i := j) (by omega)
        refine f_run_ok (stop := fun q => Nat.beq q 5) hX 90 _ _ _ _ _ ?_
        refine And.intro (fun h => absurd ((nI_leI (a := 697) (b := j) (by omega) (by omega)).mp h) (by omega)) (fun h => ?_)
        refine And.intro (fun h2 => ?_) (fun h2 => ?_)
        · have h2 : lg_cmp (f_atL 697 (M'.2 43) (nI j)) 0 ≤ 0 := h2
          rw [ha] at h2
          have h2 := (f_lcmp (hwb j (by omega))).mp h2
          have q := ih (j + 1) M' (some (.long (f_atL 697 (M'.2 43) (nI j)))) (by omega) he
          rw [nI_succ, show f_wsum w g (j + 1) = f_wsum w g j by show _ + _ = _; rw [if_pos h2]; rfl] at q
          exact q
        · have h2 : ¬ lg_cmp (f_atL 697 (M'.2 43) (nI j)) 0 ≤ 0 := h2
          rw [ha] at h2
          have h2 : ¬ w j = 0 := fun z => h2 ((f_lcmp (hwb j (by omega))).mpr z)
          have hLe : M'.1 5 0 = nI L := by rw [he.1 5 (by decide)]; exact hL
          refine ⟨f_set j, L, rfl, hb, hso.1.1, hLe, hL1, hL17, fun M2 he2 hS2 => ?_⟩
          refine ⟨f_shp L (f_set j), L, wh, n, rfl, rfl, hwh, rfl, hn, hS2, f_shp_ne hL1, ?_⟩
          have hgj : g (f_set j) = if f_fit (f_shp L (f_set j)) L wh n = true then 1 else 0 := by rw [← hg]
          refine And.intro (fun h3 => ?_) (fun h3 => ?_)
          · have h3 : f_b (f_fit (f_shp L (f_set j)) L wh n) = 0 := h3
            have h3 := f_b0.mp h3
            have q := ih (j + 1) M2 (some (.long (f_atL 697 (M'.2 43) (nI j)))) (by omega) (he.tr he2)
            rw [nI_succ, show f_wsum w g (j + 1) = f_wsum w g j + 0 by show _ + _ = _; rw [if_neg h2, hgj, h3, if_neg (by decide), Nat.mul_zero], ← lN_add] at q
            exact q
          · have h3 : ¬ f_b (f_fit (f_shp L (f_set j)) L wh n) = 0 := h3
            have h3 := f_b_nt h3
            have q := ih (j + 1) M2 (some (.long (f_atL 697 (M'.2 43) (nI j)))) (by omega) (he.tr he2)
            rw [nI_succ, show f_wsum w g (j + 1) = f_wsum w g j + w j by show _ + _ = _; rw [if_neg h2, hgj, h3, if_pos rfl, Nat.mul_one], ← lN_add, ← ha] at q
            exact q
    refine f_run_ok (stop := fun q => Nat.beq q 5) hX 10 _ _ _ _ _ ?_
    exact loop 697 0 M none rfl f_ex.rf
