/-! where one may break -/
def f_pcs (L br : Nat) : Nat → Nat → Nat → List (Nat × Nat)
  | 0, _, _ => []
  | n + 1, p, f => if p = L ∨ br.testBit p = true then (f, p) :: f_pcs L br n (p + 1) p else f_pcs L br n (p + 1) f
def f_ops (rs : List fRl) (c kd : Nat) (ps : List (Nat × Nat)) : List fOp := ps.filterMap (fun q => if f_frb rs q.1 q.2 c kd = 0 then none else some (q.1, q.2, f_frb rs q.1 q.2 c kd))
def f_alls (rs : List fRl) (c kd : Nat) (ps : List (Nat × Nat)) : Nat := ps.foldl (fun a q => a ||| f_frb rs q.1 q.2 c kd) 0
def f_may (rs : List fRl) (L kd v : Nat) (row : Nat → Nat) (br : Nat) : Nat :=
  if kd = 0 ∨ (f_ops rs (f_pc br) kd (f_pcs L br L 1 0)).length = 0 then f_alls rs (f_pc br) kd (f_pcs L br L 1 0) else
  match f_cho (f_ops rs (f_pc br) kd (f_pcs L br L 1 0)) kd v row (f_pc br) with
  | none => 0
  | some i => if kd = 4 then f_far (f_og (f_ops rs (f_pc br) kd (f_pcs L br L 1 0)) i) else (f_og (f_ops rs (f_pc br) kd (f_pcs L br L 1 0)) i).2.2
theorem f_cnt_le (P : Nat → Bool) : ∀ n, f_cnt n P ≤ n := by
  intro n
  induction n with
  | zero => exact Nat.le_refl _
  | succ n ih =>
    show f_cnt n P + (if P n then 1 else 0) ≤ n + 1
    split <;> omega
theorem f_frb_lt (rs : List fRl) (f t c k : Nat) : f_frb rs f t c k < 2 ^ t := f_bits_lt _ _
theorem n_or_lt {a b n : Nat} (ha : a < 2 ^ n) (hb : b < 2 ^ n) : a ||| b < 2 ^ n := Nat.or_lt_two_pow ha hb
def f_CS : List Nat := [33, 34, 35, 36, 37, 38]
theorem f_cho_lt (ops : List fOp) (kd v : Nat) (row : Nat → Nat) (c i : Nat) (h0 : 0 < ops.length) (h : f_cho ops kd v row c = some i) : i < ops.length := by
  unfold f_cho at h
  split at h
  · cases h; have := f_lng_le ops (ops.length - 1); omega
  · split at h
    · exact f_sht_lt _ _ _ _ h
    · split at h
      · exact f_sht_lt _ _ _ _ h
      · split at h
        · cases h; exact Nat.mod_lt _ h0
        · split at h
          · cases h; exact h0
          · cases h
/-- the yard that holds: length, rules -/
def f_YH (M : fMem) (L : Nat) (rs : List fRl) : Prop := f_YR M 5 rs ∧ M.1 5 0 = nI L ∧ 1 ≤ L ∧ L ≤ 17
theorem f_YH.ex {M M' : fMem} {L : Nat} {rs : List fRl} {cs ds : List Nat} (h : f_YH M L rs) (he : f_ex cs ds M M') (h0 : 5 ∉ cs) (h1 : 6 ∉ cs) (h2 : 7 ∉ cs) (h3 : 8 ∉ cs) (h4 : 9 ∉ cs) : f_YH M' L rs := ⟨h.1.ex he h0 h1 h2 h3 h4, by rw [he.1 5 h0]; exact h.2.1, h.2.2.1, h.2.2.2⟩
def S_may : fSp := fun G As M R => match As with
  | [.ref 33, .int z, .int zb] => ∃ (rs : List fRl) (L b kd v : Nat) (row : Nat → Nat) (br : Nat), G = f_GX ∧ z = nI b ∧ zb = nI br ∧ br < 2 ^ 17 ∧ f_YH M L rs ∧ f_BK M b kd v row ∧ (∀ M', f_ex f_CS [] M M' → R G (some (.int (nI (f_may rs L kd v row br)))) M')
  | _ => False
set_option maxRecDepth 20000 in
theorem m_may : f_Meets 9 (kX1_mayBreak S_at S_bitCount S_hasBit S_look S_free S_put S_cho S_far) S_may := by
  intro G As M R hsp X hX hW
  match As, hsp with
  | [.ref 33, .int z, .int zb], ⟨rs, L, b, kd, v, row, br, hG, hz, hzb, hbr, hY, hBK, hsp⟩ =>
    subst hG; subst hz; subst hzb
    have hL1 := hY.2.2.1
    have hL17 := hY.2.2.2
    have hYl := hY.2.1
    have hc17 : f_pc br ≤ 17 := f_cnt_le _ 17
    unfold f_may at hsp
    generalize hc : f_pc br = c at *
    generalize hP : f_pcs L br L 1 0 = P at *
    have tail : ∀ (M' : fMem) (p f : Nat) (o : Option Value), f_ex f_CS [] M M' → f_OP M' (f_ops rs c kd P) → f_alls rs c kd P < 2 ^ 17 → L < p → p ≤ 18 → X f_GX 32 [some (.ref 33), some (.int (nI b)), some (.int (nI br)), some (.int (nI kd)), some (.int (nI c)), some (.int (nI f)), some (.int (nI (f_alls rs c kd P))), some (.int (nI p)), o] [] M' := by
      intro M' p f o he hO hal hp hp18
      have hBK' := hBK.ex he (by decide) (by decide) (by decide)
      refine f_run_ok (stop := fun q => Nat.beq q 32 || Nat.beq q 187) hX 40 _ _ _ _ _ ?_
      refine And.intro (fun h => ?_) (fun h => ?_)
      · refine And.intro (fun h2 => ?_) (fun h2 => ?_)
        · have h2 : kd = 0 := (nI_eq (b := 0) (by have := hBK.2.1; omega) (by omega)).mp h2
          exact f_fin (hsp M' he) (by rw [if_pos (Or.inl h2)]) rfl
        · have h2 : ¬ kd = 0 := fun z => h2 (by rw [z]; rfl)
          refine And.intro (fun h3 => ?_) (fun h3 => ?_)
          · have h3 : M'.1 33 2 = 0 := h3
            rw [hO.1] at h3
            have h3 : (f_ops rs c kd P).length = 0 := (nI_eq (b := 0) (by have := hO.2.1; omega) (by omega)).mp h3
            exact f_fin (hsp M' he) (by rw [if_pos (Or.inr h3)]) rfl
          · have h3 : ¬ (f_ops rs c kd P).length = 0 := fun z => h3 (by show M'.1 33 2 = 0; rw [hO.1, z]; rfl)
            refine ⟨f_ops rs c kd P, b, kd, v, row, c, rfl, hO, by omega, rfl, rfl, rfl, by omega, hBK', ?_⟩
            have hs := hsp M' he
            rw [if_neg (by omega)] at hs
            show X f_GX 187 [some (.ref 33), some (.int (nI b)), some (.int (nI br)), some (.int (nI kd)), some (.int (nI c)), some (.int (nI f)), some (.int (nI (f_alls rs c kd P))), some (.int (nI p)), o] [.int (f_opI (f_cho (f_ops rs c kd P) kd v row c))] M'
            have hk7 := hBK.2.1
            cases hch : f_cho (f_ops rs c kd P) kd v row c with
            | none =>
              rw [hch] at hs
              have hk4 : ¬ kd = 4 := fun z => by rw [z] at hch; unfold f_cho at hch; rw [if_pos (Or.inr rfl)] at hch; cases hch
              refine f_run_ok (stop := fun q => false) hX 40 _ _ _ _ _ ?_
              refine And.intro (fun h4 => ?_) (fun h4 => ?_)
              · exact absurd ((nI_eq (b := 4) (by omega) (by omega)).mp h4) hk4
              · refine f_fin hs ?_ rfl
                refine congrArg (fun z => some (Value.int z)) ?_
                show nI 0 = f_at (17, M'.1 36) (-1)
                unfold f_at
                rw [if_neg (fun q => absurd q.1 (by decide))]
                rfl
            | some i =>
              rw [hch] at hs
              have hi := f_cho_lt _ _ _ _ _ _ (by omega) hch
              refine f_run_ok (stop := fun q => false) hX 40 _ _ _ _ _ ?_
              refine And.intro (fun h4 => ?_) (fun h4 => ?_)
              · have h4 : kd = 4 := (nI_eq (b := 4) (by omega) (by omega)).mp h4
                refine ⟨f_ops rs c kd P, i, rfl, hO, rfl, hi, ?_⟩
                exact f_fin hs (by simp [h4]) rfl
              · have h4 : ¬ kd = 4 := fun z => h4 (by rw [z]; rfl)
                have h17 := hO.2.1
                refine f_fin hs ?_ rfl
                refine congrArg (fun z => some (Value.int z)) ?_
                simp only [h4, if_false]
                show nI _ = f_at (17, M'.1 36) (nI i)
                rw [f_at_in (t := (17, M'.1 36)) (j := i) (by show i < 17; omega) (by show 17 < _; decide)]
                exact (hO.get hi).2.2.1.symm
      · refine absurd ?_ h
        show M'.1 5 0 < nI p
        rw [he.1 5 (by decide), hYl]
        exact nI_lt (by omega) (by omega)
    have loop : ∀ (n p f : Nat) (dn : List (Nat × Nat)) (M' : fMem) (o : Option Value), p + n = L + 1 → f < p → 1 ≤ p → P = dn ++ f_pcs L br n p f → dn.length < p → f_ex f_CS [] M M' → f_OP M' (f_ops rs c kd dn) → f_alls rs c kd dn < 2 ^ 17 → X f_GX 32 [some (.ref 33), some (.int (nI b)), some (.int (nI br)), some (.int (nI kd)), some (.int (nI c)), some (.int (nI f)), some (.int (nI (f_alls rs c kd dn))), some (.int (nI p)), o] [] M' := by
      intro n
      induction n with
      | zero =>
        intro p f dn M' o hp hfp hp1 hPd hdl he hO hal
        have hPd : P = dn := by rw [hPd]; simp [f_pcs]
        subst hPd
        exact tail M' p f o he hO hal (by omega) (by omega)
      | succ n ih =>
        intro p f dn M' o hp hfp hp1 hPd hdl he hO hal
        have hBK' := hBK.ex he (by decide) (by decide) (by decide)
        have hY' := hY.ex he (by decide) (by decide) (by decide) (by decide) (by decide)
        have h17 := hO.2.1
        -- a piece ends here
        have piece : (p = L ∨ br.testBit p = true) → X f_GX 71 [some (.ref 33), some (.int (nI b)), some (.int (nI br)), some (.int (nI kd)), some (.int (nI c)), some (.int (nI f)), some (.int (nI (f_alls rs c kd dn))), some (.int (nI p)), o] [] M' := by
          intro hpl
          have hPd2 : P = (dn ++ [(f, p)]) ++ f_pcs L br n (p + 1) p := by
            rw [hPd]
            show dn ++ (if p = L ∨ br.testBit p = true then (f, p) :: f_pcs L br n (p + 1) p else f_pcs L br n (p + 1) f) = _
            rw [if_pos hpl, List.append_assoc]; rfl
          have ealls : f_alls rs c kd (dn ++ [(f, p)]) = f_alls rs c kd dn ||| f_frb rs f p c kd := by unfold f_alls; rw [List.foldl_append]; rfl
          have hfr := f_frb_lt rs f p c kd
          have hfr17 : f_frb rs f p c kd < 2 ^ 17 := Nat.lt_of_lt_of_le hfr (Nat.pow_le_pow_right (by decide) (by omega))
          have hal2 : f_alls rs c kd (dn ++ [(f, p)]) < 2 ^ 17 := by rw [ealls]; exact n_or_lt hal hfr17
          refine f_run_ok (stop := fun q => Nat.beq q 92) hX 40 _ _ _ _ _ ?_
          refine And.intro rfl ?_
          refine ⟨rs, f, p, c, kd, rfl, ?_, ?_, fun M2 he2 => ?_⟩
          · exact hY'.1.ex ((((f_ex.rf (cs := f_CS) (ds := [])).up (c := 37) (by decide)).up (c := 37) (by decide)).up (c := 37) (by decide) |>.up (c := 37) (by decide)) (by decide) (by decide) (by decide) (by decide) (by decide)
          · refine ⟨hfp, by omega, by omega, by have := hBK.2.1; omega, ?_, ?_, ?_, ?_⟩ <;> simp [f_up]
          · have he3 : f_ex f_CS [] M M2 := by
              refine he.tr (f_ex.tr (M1 := (f_up (f_up (f_up (f_up M'.1 37 1 (nI f)) 37 2 (nI p)) 37 3 (nI c)) 37 4 (nI kd), M'.2)) ?_ (he2.mono (by decide) (by decide)))
              exact ((((f_ex.rf (cs := f_CS) (ds := [])).up (c := 37) (by decide)).up (c := 37) (by decide)).up (c := 37) (by decide) |>.up (c := 37) (by decide))
            have hop : ∀ d, d ≠ 37 → d ≠ 38 → M2.1 d = M'.1 d := fun d h1 h2 => by
              rw [he2.1 d (by simp [h2])]
              show f_up (f_up (f_up (f_up M'.1 37 1 (nI f)) 37 2 (nI p)) 37 3 (nI c)) 37 4 (nI kd) d = _
              rw [f_up_ne h1, f_up_ne h1, f_up_ne h1, f_up_ne h1]
            have hO2 : f_OP M2 (f_ops rs c kd dn) := by
              obtain ⟨o1, o2, o3⟩ := hO
              exact ⟨by rw [hop 33 (by decide) (by decide)]; exact o1, o2, fun i o hi => by
                rw [hop 34 (by decide) (by decide), hop 35 (by decide) (by decide), hop 36 (by decide) (by decide)]; exact o3 i o hi⟩
            show X f_GX 92 [some (.ref 33), some (.int (nI b)), some (.int (nI br)), some (.int (nI kd)), some (.int (nI c)), some (.int (nI f)), some (.int (nI (f_alls rs c kd dn))), some (.int (nI p)), o] [.int (nI (f_frb rs f p c kd))] M2
            refine f_run_ok (stop := fun q => Nat.beq q 32) hX 60 _ _ _ _ _ ?_
            refine And.intro (fun h => ?_) (fun h => ?_)
            · have h : f_frb rs f p c kd = 0 := (nI_eq (b := 0) (by omega) (by omega)).mp h
              have eops : f_ops rs c kd (dn ++ [(f, p)]) = f_ops rs c kd dn := by
                unfold f_ops; rw [List.filterMap_append]; simp [h]
              have := ih (p + 1) p (dn ++ [(f, p)]) M2 (some (.int (nI (f_frb rs f p c kd)))) (by omega) (by omega) (by omega) hPd2 (by simp; omega) he3 (by rw [eops]; exact hO2) hal2
              rw [ealls, ← fa_or, nI_succ] at this
              exact this
            · have h : ¬ f_frb rs f p c kd = 0 := fun z => h (by rw [z]; rfl)
              have eops : f_ops rs c kd (dn ++ [(f, p)]) = f_ops rs c kd dn ++ [(f, p, f_frb rs f p c kd)] := by
                unfold f_ops; rw [List.filterMap_append]; simp [h]
              have hlen : (f_ops rs c kd dn).length ≤ dn.length := List.length_filterMap_le _ _
              have hn : M2.1 33 2 = nI (f_ops rs c kd dn).length := hO2.1
              have put1 : f_pt 17 34 (M2.1 33 2) (nI f) M2 = (f_up M2.1 34 (f_ops rs c kd dn).length (nI f), M2.2) := by rw [hn]; exact f_pt_in (by omega) (by decide)
              have := ih (p + 1) p (dn ++ [(f, p)]) (f_up (f_up (f_up (f_up M2.1 34 (f_ops rs c kd dn).length (nI f)) 35 (f_ops rs c kd dn).length (nI p)) 36 (f_ops rs c kd dn).length (nI (f_frb rs f p c kd))) 33 2 (nI (f_ops rs c kd dn).length + 1), M2.2) (some (.int (nI (f_frb rs f p c kd)))) (by omega) (by omega) (by omega) hPd2 (by simp; omega) (he3.tr (((((f_ex.rf (cs := f_CS) (ds := [])).up (c := 34) (by decide)).up (c := 35) (by decide)).up (c := 36) (by decide)).up (c := 33) (by decide))) (by
                rw [eops]
                obtain ⟨o1, o2, o3⟩ := hO2
                refine ⟨?_, by simp; omega, fun i q hi => ?_⟩
                · simp [f_up, nI_succ]
                · by_cases hil : i < (f_ops rs c kd dn).length
                  · rw [List.getElem?_append_left hil] at hi
                    have := o3 i q hi
                    simp [f_up, show ¬ i = (f_ops rs c kd dn).length by omega]
                    exact this
                  · rw [List.getElem?_append_right (by omega)] at hi
                    have hz : i - (f_ops rs c kd dn).length < 1 := (List.getElem?_eq_some_iff.mp hi).1
                    have hi0 : i = (f_ops rs c kd dn).length := by omega
                    rw [hi0, Nat.sub_self] at hi
                    cases hi
                    simp [f_up, hi0]
                    exact ⟨hfp, by omega, by omega⟩) hal2
              rw [ealls, ← fa_or, nI_succ] at this
              have g35 : ∀ M3 : fMem, M3.1 33 2 = nI (f_ops rs c kd dn).length → ∀ w, f_pt 17 35 (M3.1 33 2) w M3 = (f_up M3.1 35 (f_ops rs c kd dn).length w, M3.2) := fun M3 h3 w => by rw [h3]; exact f_pt_in (by omega) (by decide)
              have g36 : ∀ M3 : fMem, M3.1 33 2 = nI (f_ops rs c kd dn).length → ∀ w, f_pt 17 36 (M3.1 33 2) w M3 = (f_up M3.1 36 (f_ops rs c kd dn).length w, M3.2) := fun M3 h3 w => by rw [h3]; exact f_pt_in (by omega) (by decide)
              show X f_GX 32 [some (.ref 33), some (.int (nI b)), some (.int (nI br)), some (.int (nI kd)), some (.int (nI c)), some (.int (nI p)), some (.int (nI (f_alls rs c kd dn) ||| nI (f_frb rs f p c kd))), some (.int (nI p + 1)), some (.int (nI (f_frb rs f p c kd)))] [] (f_up (f_pt 17 36 ((f_pt 17 35 ((f_pt 17 34 (M2.1 33 2) (nI f) M2).1 33 2) (nI p) (f_pt 17 34 (M2.1 33 2) (nI f) M2)).1 33 2) (nI (f_frb rs f p c kd)) (f_pt 17 35 ((f_pt 17 34 (M2.1 33 2) (nI f) M2).1 33 2) (nI p) (f_pt 17 34 (M2.1 33 2) (nI f) M2))).1 33 2 ((f_pt 17 36 ((f_pt 17 35 ((f_pt 17 34 (M2.1 33 2) (nI f) M2).1 33 2) (nI p) (f_pt 17 34 (M2.1 33 2) (nI f) M2)).1 33 2) (nI (f_frb rs f p c kd)) (f_pt 17 35 ((f_pt 17 34 (M2.1 33 2) (nI f) M2).1 33 2) (nI p) (f_pt 17 34 (M2.1 33 2) (nI f) M2))).1 33 2 + 1), (f_pt 17 36 ((f_pt 17 35 ((f_pt 17 34 (M2.1 33 2) (nI f) M2).1 33 2) (nI p) (f_pt 17 34 (M2.1 33 2) (nI f) M2)).1 33 2) (nI (f_frb rs f p c kd)) (f_pt 17 35 ((f_pt 17 34 (M2.1 33 2) (nI f) M2).1 33 2) (nI p) (f_pt 17 34 (M2.1 33 2) (nI f) M2))).2)
              rw [put1]
              rw [g35 (f_up M2.1 34 (f_ops rs c kd dn).length (nI f), M2.2) (by simp [f_up, hn])]
              rw [g36 (f_up (f_up M2.1 34 (f_ops rs c kd dn).length (nI f)) 35 (f_ops rs c kd dn).length (nI p), M2.2) (by simp [f_up, hn])]
              have e33 : f_up (f_up (f_up M2.1 34 (f_ops rs c kd dn).length (nI f)) 35 (f_ops rs c kd dn).length (nI p)) 36 (f_ops rs c kd dn).length (nI (f_frb rs f p c kd)) 33 2 = nI (f_ops rs c kd dn).length := by simp [f_up, hn]
              show X f_GX 32 _ _ (f_up (f_up (f_up (f_up M2.1 34 (f_ops rs c kd dn).length (nI f)) 35 (f_ops rs c kd dn).length (nI p)) 36 (f_ops rs c kd dn).length (nI (f_frb rs f p c kd))) 33 2 (f_up (f_up (f_up M2.1 34 (f_ops rs c kd dn).length (nI f)) 35 (f_ops rs c kd dn).length (nI p)) 36 (f_ops rs c kd dn).length (nI (f_frb rs f p c kd)) 33 2 + 1), M2.2)
              rw [e33]
              exact this
        refine f_run_ok (stop := fun q => Nat.beq q 32 || Nat.beq q 71) hX 40 _ _ _ _ _ ?_
        refine And.intro (fun h => ?_) (fun h => ?_)
        · have h : M'.1 5 0 < nI p := h
          rw [he.1 5 (by decide), hYl] at h
          have := (nI_ltI (by omega) (by omega)).mp h
          omega
        · refine And.intro (fun h2 => ?_) (fun h2 => ?_)
          · have h2 : nI p = M'.1 5 0 := h2
            rw [he.1 5 (by decide), hYl] at h2
            exact piece (Or.inl ((nI_eq (by omega) (by omega)).mp h2))
          · have h2 : ¬ p = L := fun z => h2 (by show nI p = M'.1 5 0; rw [he.1 5 (by decide), hYl, z])
            refine And.intro (fun h3 => ?_) (fun h3 => ?_)
            · have h3 := f_b0.mp h3
              rw [n_bit (by omega) (by omega)] at h3
              have := ih (p + 1) f dn M' o (by omega) (by omega) (by omega) (by
                rw [hPd]
                show dn ++ (if p = L ∨ br.testBit p = true then (f, p) :: f_pcs L br n (p + 1) p else f_pcs L br n (p + 1) f) = _
                rw [if_neg (by rw [h3]; simp [h2])]) (by omega) he hO hal
              rw [nI_succ] at this
              exact this
            · have h3 : br.testBit p = true := by
                cases hb : br.testBit p with
                | true => rfl
                | false => exact absurd (f_b0.mpr (by rw [n_bit (by omega) (by omega)]; exact hb)) h3
              exact piece (Or.inr h3)
    refine f_run_ok (stop := fun q => Nat.beq q 11) hX 40 _ _ _ _ _ ?_
    obtain ⟨b6, k7, v10, b1, b2, b3⟩ := hBK
    have e1 : f_at (6, M.1 2) (nI b) = nI kd := by
      rw [f_at_in (t := (6, M.1 2)) (j := b) (by show b < 6; omega) (by show 6 < _; decide)]; exact b1
    show X f_GX 11 [some (.ref 33), some (.int (nI b)), some (.int (nI br)), none, none, none, none, none, none] [.int (f_at (6, M.1 2) (nI b))] M
    rw [e1]
    refine f_run_ok (stop := fun q => Nat.beq q 32) hX 40 _ _ _ _ _ ?_
    refine ⟨br, rfl, hbr, ?_⟩
    rw [hc]
    have := loop L 1 0 [] (f_up M.1 33 2 0, M.2) none (by omega) (by omega) (by omega) (by rw [List.nil_append]; exact hP.symm) (by simp) (f_ex.rf.up (by decide)) ⟨by show f_up M.1 33 2 0 33 2 = _; simp [f_up, f_ops]; rfl, by simp [f_ops], fun i o hi => by simp [f_ops] at hi⟩ (by show 0 < 2 ^ 17; decide)
    exact this
