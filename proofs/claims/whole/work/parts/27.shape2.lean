def f_shp (L br : Nat) : List Nat := f_srt ((f_pcs L br L 1 0).map (fun q => q.2 - q.1))
theorem f_srt_app (l : List Nat) (x : Nat) : f_srt (l ++ [x]) = f_ins x (f_srt l) := by unfold f_srt; rw [List.foldl_append]; rfl
theorem f_fold_sd : ∀ (l a : List Nat), f_sd a → f_sd (l.foldl (fun a x => f_ins x a) a) := by
  intro l
  induction l with
  | nil => intro a h; exact h
  | cons x l ih => intro a h; exact ih _ (f_ins_sd x a h)
theorem f_srt_sd (l : List Nat) : f_sd (f_srt l) := f_fold_sd l [] (fun i j x y _ hx _ => by simp at hx)
theorem f_fold_len : ∀ (l a : List Nat), (l.foldl (fun a x => f_ins x a) a).length = a.length + l.length := by
  intro l
  induction l with
  | nil => intro a; rfl
  | cons x l ih => intro a; show (l.foldl _ (f_ins x a)).length = _; rw [ih, f_ins_len]; simp; omega
theorem f_srt_len (l : List Nat) : (f_srt l).length = l.length := by
  have := f_fold_len l []
  simpa [f_srt] using this
theorem f_SH.ex {M M' : fMem} {l : List Nat} {T : Nat} {cs ds : List Nat} (h : f_SH M l T) (he : f_ex cs ds M M') (h1 : 39 ∉ cs) (h2 : 40 ∉ cs) : f_SH M' l T := by
  obtain ⟨a, b, c, d, e, f⟩ := h
  exact ⟨by rw [he.1 39 h1]; exact a, by rw [he.1 39 h1]; exact b, c, fun i x hi => by rw [he.1 40 h2]; exact d i x hi, e, f⟩
def S_lay : fSp := fun G As M R => match As with
  | [.ref 39, .int zb, .int zl] => ∃ (br L : Nat), G = f_GX ∧ zb = nI br ∧ br < 2 ^ 17 ∧ zl = nI L ∧ 1 ≤ L ∧ L ≤ 17 ∧ (∀ M', f_ex [39, 40] [] M M' → f_SH M' (f_shp L br) L → R G none M')
  | _ => False
set_option maxRecDepth 20000 in
theorem m_lay : f_Meets 5 (kX7_lay S_hasBit S_add) S_lay := by
  intro G As M R hsp X hX hW
  match As, hsp with
  | [.ref 39, .int zb, .int zl], ⟨br, L, hG, hzb, hbr, hzl, hL1, hL17, hsp⟩ =>
    subst hG; subst hzb; subst hzl
    unfold f_shp at hsp
    generalize hP : f_pcs L br L 1 0 = P at *
    have loop : ∀ (n p f : Nat) (dn : List (Nat × Nat)) (M' : fMem), p + n = L + 1 → f < p → 1 ≤ p → P = dn ++ f_pcs L br n p f → dn.length < p → f_ex [39, 40] [] M M' → f_SH M' (f_srt (dn.map (fun q => q.2 - q.1))) L → X f_GX 15 [some (.ref 39), some (.int (nI br)), some (.int (nI L)), some (.int (nI f)), some (.int (nI p))] [] M' := by
      intro n
      induction n with
      | zero =>
        intro p f dn M' hp hfp hp1 hPd hdl he hS
        have hPd : P = dn := by rw [hPd]; simp [f_pcs]
        subst hPd
        refine f_run_ok (stop := fun q => Nat.beq q 15) hX 30 _ _ _ _ _ ?_
        refine And.intro (fun h => ?_) (fun h => ?_)
        · exact hsp M' he hS
        · exact absurd (nI_lt (by omega) (by omega)) h
      | succ n ih =>
        intro p f dn M' hp hfp hp1 hPd hdl he hS
        have piece : (p = L ∨ br.testBit p = true) → X f_GX 36 [some (.ref 39), some (.int (nI br)), some (.int (nI L)), some (.int (nI f)), some (.int (nI p))] [] M' := by
          intro hpl
          have hPd2 : P = (dn ++ [(f, p)]) ++ f_pcs L br n (p + 1) p := by
            rw [hPd]
            show dn ++ (if p = L ∨ br.testBit p = true then (f, p) :: f_pcs L br n (p + 1) p else f_pcs L br n (p + 1) f) = _
            rw [if_pos hpl, List.append_assoc]; rfl
          refine f_run_ok (stop := fun q => Nat.beq q 15) hX 30 _ _ _ _ _ ?_
          refine ⟨f_srt (dn.map (fun q => q.2 - q.1)), L, p - f, rfl, pk_sub (by omega), by omega, hS, by rw [f_srt_len, List.length_map]; omega, f_srt_sd _, fun M2 he2 hS2 => ?_⟩
          have := ih (p + 1) p (dn ++ [(f, p)]) M2 (by omega) (by omega) (by omega) hPd2 (by simp; omega) (he.tr he2) (by rw [List.map_append, List.map_cons, List.map_nil, f_srt_app]; exact hS2)
          rw [nI_succ] at this
          exact this
        refine f_run_ok (stop := fun q => Nat.beq q 15 || Nat.beq q 36) hX 40 _ _ _ _ _ ?_
        refine And.intro (fun h => ?_) (fun h => ?_)
        · have := (nI_ltI (by omega) (by omega)).mp h
          omega
        · refine And.intro (fun h2 => ?_) (fun h2 => ?_)
          · exact piece (Or.inl ((nI_eq (by omega) (by omega)).mp h2))
          · have h2 : ¬ p = L := fun z => h2 (by rw [z])
            refine And.intro (fun h3 => ?_) (fun h3 => ?_)
            · have h3 := f_b0.mp h3
              rw [n_bit (by omega) (by omega)] at h3
              have := ih (p + 1) f dn M' (by omega) (by omega) (by omega) (by
                rw [hPd]
                show dn ++ (if p = L ∨ br.testBit p = true then (f, p) :: f_pcs L br n (p + 1) p else f_pcs L br n (p + 1) f) = _
                rw [if_neg (by rw [h3]; simp [h2])]) (by omega) he hS
              rw [nI_succ] at this
              exact this
            · have h3 : br.testBit p = true := by
                cases hb : br.testBit p with
                | true => rfl
                | false => exact absurd (f_b0.mpr (by rw [n_bit (by omega) (by omega)]; exact hb)) h3
              exact piece (Or.inr h3)
    refine f_run_ok (stop := fun q => Nat.beq q 15) hX 40 _ _ _ _ _ ?_
    exact loop L 1 0 [] (f_up (f_up M.1 39 1 0) 39 2 (nI L), M.2) (by omega) (by omega) (by omega) (by rw [List.nil_append]; exact hP.symm) (by simp) ((f_ex.rf.up (by decide)).up (by decide)) ⟨by show f_up (f_up M.1 39 1 0) 39 2 (nI L) 39 1 = _; simp [f_up, f_srt]; rfl, by show f_up (f_up M.1 39 1 0) 39 2 (nI L) 39 2 = _; simp [f_up], by simp [f_srt], fun i x hi => by simp [f_srt] at hi, hL17, fun x hx => by simp [f_srt] at hx⟩
def f_ll (l : List Nat) : Nat := l.getD (l.length - 1) 0
theorem f_SH.get {M : fMem} {l : List Nat} {T k : Nat} (h : f_SH M l T) (hk : k < l.length) : f_at (17, M.1 40) (nI k) = nI (l.getD k 0) ∧ l.getD k 0 ≤ T ∧ T ≤ 17 := by
  obtain ⟨s1, s2, s3, s4, s6, s5⟩ := h
  have e : l[k]? = some (l.getD k 0) := by rw [List.getD_eq_getElem?_getD, List.getElem?_eq_getElem hk]; rfl
  refine ⟨?_, s5 _ (List.mem_of_getElem? e), s6⟩
  rw [f_at_in (t := (17, M.1 40)) (j := k) (by show k < 17; omega) (by show 17 < _; decide)]
  exact s4 k _ e
def S_lat : fSp := fun G As M R => match As with
  | [.ref 39, .int z] => ∃ (l : List Nat) (T k : Nat), G = f_GX ∧ z = nI k ∧ k < 1000 ∧ f_SH M l T ∧ R G (some (.int (nI (l.getD k 0)))) M
  | _ => False
theorem m_lat : f_Meets 2 (kX7_lengthAt S_at) S_lat := by
  intro G As M R hsp X hX hW
  match As, hsp with
  | [.ref 39, .int z], ⟨l, T, k, hG, hz, hk, hS, hsp⟩ =>
    subst hG; subst hz
    have s1 := hS.1
    have s3 := hS.2.2.1
    refine f_run_ok (stop := fun q => false) hX 30 _ _ _ _ _ ?_
    refine And.intro (fun h => ?_) (fun h => ?_)
    · have h : M.1 39 1 ≤ nI k := h
      rw [s1] at h
      have h := (nI_leI (by omega) (by omega)).mp h
      refine f_fin hsp ?_ rfl
      rw [List.getD_eq_getElem?_getD, List.getElem?_eq_none (by omega)]
      rfl
    · have h : ¬ M.1 39 1 ≤ nI k := h
      rw [s1] at h
      have h : ¬ l.length ≤ k := fun z => h ((nI_leI (by omega) (by omega)).mpr z)
      have := (hS.get (k := k) (by omega)).1
      refine f_fin hsp ?_ rfl
      show _ = some (Value.int (f_at (17, M.1 40) (nI k)))
      rw [this]
def S_lgs : fSp := fun G As M R => match As with
  | [.ref 39] => ∃ (l : List Nat) (T : Nat), G = f_GX ∧ f_SH M l T ∧ 0 < l.length ∧ R G (some (.int (nI (f_ll l)))) M
  | _ => False
theorem m_lgs : f_Meets 1 (kX7_longest S_at) S_lgs := by
  intro G As M R hsp X hX hW
  match As, hsp with
  | [.ref 39], ⟨l, T, hG, hS, h0, hsp⟩ =>
    subst hG
    have s1 := hS.1
    have s3 := hS.2.2.1
    have := (hS.get (k := l.length - 1) (by omega)).1
    refine f_run_ok (stop := fun q => false) hX 30 _ _ _ _ _ ?_
    refine f_fin hsp ?_ rfl
    show _ = some (Value.int (f_at (17, M.1 40) (M.1 39 1 - 1)))
    have e : M.1 39 1 - 1 = nI (l.length - 1) := by rw [s1]; exact pk_sub (b := 1) (by omega)
    rw [e, this]
    rfl
