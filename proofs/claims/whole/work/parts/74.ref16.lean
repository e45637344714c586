/-! ===== the reference: which notches, by the kinds ===== -/
def f_opq (rs : List fRl) (c kd : Nat) (q : Nat × Nat) : List fOp := if f_frb rs q.1 q.2 c kd = 0 then [] else [(q.1, q.2, f_frb rs q.1 q.2 c kd)]
theorem f_ops_snoc (rs : List fRl) (c kd : Nat) (dn : List (Nat × Nat)) (q : Nat × Nat) : f_ops rs c kd (dn ++ [q]) = f_ops rs c kd dn ++ f_opq rs c kd q := by
  unfold f_ops f_opq
  rw [List.filterMap_append]
  congr 1
  by_cases h : f_frb rs q.1 q.2 c kd = 0
  · rw [if_pos h, List.filterMap_cons_none (by rw [if_pos h])]
    rfl
  · rw [if_neg h, List.filterMap_cons_some (by rw [if_neg h])]
    rfl
theorem f_ops_cons (rs : List fRl) (c kd : Nat) (q : Nat × Nat) (r : List (Nat × Nat)) : f_ops rs c kd (q :: r) = f_opq rs c kd q ++ f_ops rs c kd r := by
  unfold f_ops f_opq
  by_cases h : f_frb rs q.1 q.2 c kd = 0
  · rw [if_pos h, List.filterMap_cons_none (by rw [if_pos h])]
    rfl
  · rw [if_neg h, List.filterMap_cons_some (by rw [if_neg h])]
    rfl
def f_sL (bo : Option fOp) (o : fOp) : Option fOp := match bo with
  | none => some o
  | some b => if b.2.1 - b.1 < o.2.1 - o.1 then some o else some b
def f_sS (v : Nat) (bo : Option fOp) (o : fOp) : Option fOp := match bo with
  | none => if v < o.2.1 - o.1 then some o else none
  | some b => if v < o.2.1 - o.1 ∧ o.2.1 - o.1 < b.2.1 - b.1 then some o else some b
def f_opv (o : Option fOp) : Nat := match o with
  | none => 0
  | some o => o.2.2
theorem f_FL_ok (ops : List fOp) : ∀ n, n < ops.length → (ops.take (n + 1)).foldl f_sL none = some (f_og ops (f_lng ops n)) := by
  have hg : ∀ i, i < ops.length → ops[i]? = some (f_og ops i) := fun i hi => by unfold f_og; rw [List.getD_eq_getElem?_getD, List.getElem?_eq_getElem hi]; rfl
  intro n
  induction n with
  | zero =>
    intro h
    rw [List.take_succ, List.foldl_append, hg 0 h]
    rfl
  | succ n ih =>
    intro h
    rw [List.take_succ, List.foldl_append, ih (by omega), hg (n + 1) h]
    show f_sL (some (f_og ops (f_lng ops n))) (f_og ops (n + 1)) = some (f_og ops (if f_ol ops (f_lng ops n) < f_ol ops (n + 1) then n + 1 else f_lng ops n))
    show (if f_ol ops (f_lng ops n) < f_ol ops (n + 1) then some (f_og ops (n + 1)) else some (f_og ops (f_lng ops n))) = _
    split <;> rfl
theorem f_FS_ok (ops : List fOp) (v : Nat) : ∀ n, n ≤ ops.length → (ops.take n).foldl (f_sS v) none = (f_sht ops v n).map (f_og ops) := by
  have hg : ∀ i, i < ops.length → ops[i]? = some (f_og ops i) := fun i hi => by unfold f_og; rw [List.getD_eq_getElem?_getD, List.getElem?_eq_getElem hi]; rfl
  intro n
  induction n with
  | zero => intro _; rfl
  | succ n ih =>
    intro h
    rw [List.take_succ, List.foldl_append, ih (by omega), hg n (by omega)]
    show f_sS v ((f_sht ops v n).map (f_og ops)) (f_og ops n) = (f_sht ops v (n + 1)).map (f_og ops)
    have e : f_sht ops v (n + 1) = match f_sht ops v n with
      | none => if v < f_ol ops n then some n else none
      | some s => if v < f_ol ops n ∧ f_ol ops n < f_ol ops s then some n else some s := rfl
    rw [e]
    cases f_sht ops v n with
    | none =>
      show (if v < f_ol ops n then some (f_og ops n) else none) = Option.map (f_og ops) (if v < f_ol ops n then some n else none)
      split <;> rfl
    | some s =>
      show (if v < f_ol ops n ∧ f_ol ops n < f_ol ops s then some (f_og ops n) else some (f_og ops s)) = Option.map (f_og ops) (if v < f_ol ops n ∧ f_ol ops n < f_ol ops s then some n else some s)
      split <;> rfl
/-- what looksForFree left -/
def f_FW (M : fMem) (rs : List fRl) (c kd : Nat) (ps : List (Nat × Nat)) : Prop := f_PC M ps ∧ ∀ (k : Nat) (q : Nat × Nat), ps[k]? = some q → M.1 107 k = nI (f_frb rs q.1 q.2 c kd)
theorem f_FW.at {M : fMem} {rs : List fRl} {c kd : Nat} {ps : List (Nat × Nat)} (h : f_FW M rs c kd ps) {k : Nat} {q : Nat × Nat} (hq : ps[k]? = some q) : k < 17 ∧ vp_in (nI k) 17 ∧ M.1 107 (nI k).toNatClampNeg = nI (f_frb rs q.1 q.2 c kd) ∧ f_frb rs q.1 q.2 c kd < 2 ^ 17 ∧ q.1 < q.2 ∧ q.2 ≤ 17 ∧ M.1 105 (nI k).toNatClampNeg = nI q.1 ∧ M.1 106 (nI k).toNatClampNeg = nI q.2 := by
  have hk := (List.getElem?_eq_some_iff.mp hq).1
  have hl := h.1.2.1
  obtain ⟨p1, p2, p3, p4⟩ := h.1.2.2 k q hq
  obtain ⟨i1, i2⟩ := f_ix (z := nI k) (n := 17) rfl (by omega) (by omega)
  exact ⟨by omega, i1, by rw [i2]; exact h.2 k q hq, Nat.lt_of_lt_of_le (f_frb_lt _ _ _ _ _) (Nat.pow_le_pow_right (by decide) p4), p3, p4, by rw [i2]; exact p1, by rw [i2]; exact p2⟩
theorem f_FW.lof {M : fMem} {rs : List fRl} {c kd : Nat} {ps : List (Nat × Nat)} {R : fR} (h : f_FW M rs c kd ps) {k : Nat} {q : Nat × Nat} (hq : ps[k]? = some q) (hr : R f_GM (some (.int (nI (q.2 - q.1)))) M) : S_lof f_GM [.ref 100, .int (nI k)] M R := by
  have hk := (List.getElem?_eq_some_iff.mp hq).1
  have hl := h.1.2.1
  obtain ⟨p1, p2, p3, p4⟩ := h.1.2.2 k q hq
  exact ⟨k, q.1, q.2, rfl, rfl, by omega, p1, p2, by omega, hr⟩
def S_afr : fSp := fun G As M R => match As with
  | [.ref 100] => ∃ (rs : List fRl) (c kd : Nat) (ps : List (Nat × Nat)), G = f_GM ∧ f_FW M rs c kd ps ∧ R G (some (.int (nI (f_alls rs c kd ps)))) M
  | _ => False
theorem f_split {α : Type} {ps dn r : List α} {q : α} (h : dn ++ q :: r = ps) : ps[dn.length]? = some q ∧ (dn ++ [q]) ++ r = ps ∧ (dn ++ [q]).length = dn.length + 1 ∧ ps.length = dn.length + (r.length + 1) := by
  subst h
  exact ⟨by rw [List.getElem?_append_right (Nat.le_refl _), Nat.sub_self]; rfl, by rw [List.append_assoc]; rfl, by rw [List.length_append]; rfl, by rw [List.length_append]; rfl⟩
set_option maxRecDepth 20000 in
theorem m_afr : f_Meets 3 kX12_allFree S_afr := by
  intro G As M R hsp X hX hW
  match As, hsp with
  | [.ref 100], ⟨rs, c, kd, ps, hG, hF, hsp⟩ =>
    subst hG
    have hl := hF.1.2.1
    have loop : ∀ (r dn : List (Nat × Nat)), dn ++ r = ps → f_alls rs c kd dn < 2 ^ 17 → X f_GM 4 [some (.ref 100), some (.int (nI (f_alls rs c kd dn))), some (.int (nI dn.length))] [] M := by
      intro r
      induction r with
      | nil =>
        intro dn hd hb
        rw [List.append_nil] at hd
        subst hd
        refine f_run_ok (stop := fun q => false) hX 20 _ _ _ _ _ ?_
        refine And.intro (fun _ => hsp) (fun z => ?_)
        have z : ¬ M.1 100 17 ≤ nI dn.length := z
        rw [hF.1.1] at z
        exact absurd (nI_le (Nat.le_refl _) (by omega)) z
      | cons q r ih =>
        intro dn hd hb
        obtain ⟨h1, h2, h3, h4⟩ := f_split hd
        obtain ⟨a1, a2, a3, a4, _, _, _, _⟩ := hF.at h1
        have es : f_alls rs c kd (dn ++ [q]) = f_alls rs c kd dn ||| f_frb rs q.1 q.2 c kd := by unfold f_alls; rw [List.foldl_append]; rfl
        have q1 := ih (dn ++ [q]) h2 (by rw [es]; exact n_or_lt hb a4)
        rw [es, h3, nI_succ, ← fa_or, ← a3] at q1
        refine f_run_ok (stop := fun q => Nat.beq q 4) hX 20 _ _ _ _ _ ?_
        refine And.intro (fun z => ?_) (fun _ => And.intro a2 q1)
        have z : M.1 100 17 ≤ nI dn.length := z
        rw [hF.1.1] at z
        exact absurd ((nI_leI (by omega) (by omega)).mp z) (by omega)
    refine f_run_ok (stop := fun q => Nat.beq q 4) hX 20 _ _ _ _ _ ?_
    exact loop ps [] rfl (by show 0 < 2 ^ 17; decide)
/-- the local names the piece that the choice so far is -/
def f_BI (rs : List fRl) (c kd : Nat) (ps : List (Nat × Nat)) (k : Nat) (bo : Option fOp) (z : Int32) : Prop := (bo = none ∧ z = -1) ∨ ∃ (j : Nat) (q : Nat × Nat), j < k ∧ ps[j]? = some q ∧ bo = some (q.1, q.2, f_frb rs q.1 q.2 c kd) ∧ z = nI j
def S_flo : fSp := fun G As M R => match As with
  | [.ref 100] => ∃ (rs : List fRl) (c kd : Nat) (ps : List (Nat × Nat)), G = f_GM ∧ f_FW M rs c kd ps ∧ R G (some (.int (nI (f_opv ((f_ops rs c kd ps).foldl f_sL none))))) M
  | _ => False
set_option maxRecDepth 20000 in
theorem m_flo : f_Meets 3 (kX12_freeOfLongest S_lof) S_flo := by
  intro G As M R hsp X hX hW
  match As, hsp with
  | [.ref 100], ⟨rs, c, kd, ps, hG, hF, hsp⟩ =>
    subst hG
    have hl := hF.1.2.1
    have loop : ∀ (r dn : List (Nat × Nat)) (z : Int32), dn ++ r = ps → f_BI rs c kd ps dn.length ((f_ops rs c kd dn).foldl f_sL none) z → X f_GM 4 [some (.ref 100), some (.int z), some (.int (nI dn.length))] [] M := by
      intro r
      induction r with
      | nil =>
        intro dn z hd hb
        rw [List.append_nil] at hd
        subst hd
        refine f_run_ok (stop := fun q => false) hX 30 _ _ _ _ _ ?_
        refine And.intro (fun _ => ?_) (fun e => ?_)
        · rcases hb with ⟨b1, b2⟩ | ⟨j, q, b1, b2, b3, b4⟩
          · subst b2
            rw [b1] at hsp
            exact And.intro (fun _ => hsp) (fun e => absurd rfl e)
          · subst b4
            rw [b3] at hsp
            obtain ⟨a0, a2, a3, _⟩ := hF.at b2
            refine And.intro (fun e => absurd e (f_n1 (by omega))) (fun _ => ?_)
            exact And.intro a2 (f_fin hsp (congrArg (fun z => some (Value.int z)) a3.symm) rfl)
        · have e : ¬ M.1 100 17 ≤ nI dn.length := e
          rw [hF.1.1] at e
          exact absurd (nI_le (Nat.le_refl _) (by omega)) e
      | cons q r ih =>
        intro dn z hd hb
        obtain ⟨h1, h2, h3, h4⟩ := f_split hd
        obtain ⟨a0, a2, a3, a4, a5, a6, _, _⟩ := hF.at h1
        have es := f_ops_snoc rs c kd dn q
        have next : ∀ z2 : Int32, f_BI rs c kd ps (dn.length + 1) ((f_ops rs c kd (dn ++ [q])).foldl f_sL none) z2 → X f_GM 44 [some (.ref 100), some (.int z), some (.int (nI dn.length))] [.int z2] M := by
          intro z2 h
          rw [← h3] at h
          have q1 := ih (dn ++ [q]) z2 h2 h
          rw [h3, nI_succ] at q1
          exact f_run_ok (stop := fun q => Nat.beq q 4) hX 20 _ _ _ _ _ q1
        have keep : f_sL ((f_ops rs c kd dn).foldl f_sL none) (q.1, q.2, f_frb rs q.1 q.2 c kd) = (f_ops rs c kd dn).foldl f_sL none ∨ f_frb rs q.1 q.2 c kd = 0 → X f_GM 43 [some (.ref 100), some (.int z), some (.int (nI dn.length))] [] M := by
          intro h
          refine f_run_ok (stop := fun q => Nat.beq q 44) hX 20 _ _ _ _ _ ?_
          refine next z ?_
          have e : (f_ops rs c kd (dn ++ [q])).foldl f_sL none = (f_ops rs c kd dn).foldl f_sL none := by
            rw [es, List.foldl_append]
            unfold f_opq
            by_cases hz : f_frb rs q.1 q.2 c kd = 0
            · rw [if_pos hz]; rfl
            · rw [if_neg hz]
              exact h.elim id (fun e => absurd e hz)
          rw [e]
          rcases hb with b | ⟨j, q', b1, b2, b3, b4⟩
          · exact Or.inl b
          · exact Or.inr ⟨j, q', by omega, b2, b3, b4⟩
        have take : ¬ f_frb rs q.1 q.2 c kd = 0 → f_sL ((f_ops rs c kd dn).foldl f_sL none) (q.1, q.2, f_frb rs q.1 q.2 c kd) = some (q.1, q.2, f_frb rs q.1 q.2 c kd) → X f_GM 39 [some (.ref 100), some (.int z), some (.int (nI dn.length))] [] M := by
          intro hz h
          refine f_run_ok (stop := fun q => Nat.beq q 44) hX 20 _ _ _ _ _ ?_
          refine next (nI dn.length) (Or.inr ⟨dn.length, q, by omega, h1, ?_, rfl⟩)
          rw [es, List.foldl_append]
          unfold f_opq
          rw [if_neg hz]
          exact h
        refine f_run_ok (stop := fun q => Nat.beq q 39 || Nat.beq q 43) hX 40 _ _ _ _ _ ?_
        refine And.intro (fun e => ?_) (fun _ => And.intro a2 ?_)
        · have e : M.1 100 17 ≤ nI dn.length := e
          rw [hF.1.1] at e
          exact absurd ((nI_leI (by omega) (by omega)).mp e) (by omega)
        refine And.intro (fun e => ?_) (fun e => ?_)
        · have e : M.1 107 (nI dn.length).toNatClampNeg = 0 := e
          rw [a3] at e
          exact keep (Or.inr ((nI_eq (b := 0) (by omega) (by omega)).mp e))
        · have e : ¬ M.1 107 (nI dn.length).toNatClampNeg = 0 := e
          rw [a3] at e
          have hz : ¬ f_frb rs q.1 q.2 c kd = 0 := fun x => e (by rw [x]; rfl)
          rcases hb with ⟨b1, b2⟩ | ⟨j, q', b1, b2, b3, b4⟩
          · subst b2
            refine And.intro (fun _ => take hz (by rw [b1]; rfl)) (fun e => absurd rfl e)
          · subst b4
            obtain ⟨c0, _, _, _, c5, c6, _, _⟩ := hF.at b2
            refine And.intro (fun e => absurd e (f_n1 (by omega))) (fun _ => ?_)
            refine ⟨dn.length, q.1, q.2, rfl, rfl, a0, (hF.1.2.2 _ _ h1).1, (hF.1.2.2 _ _ h1).2.1, by omega, j, q'.1, q'.2, rfl, rfl, c0, (hF.1.2.2 _ _ b2).1, (hF.1.2.2 _ _ b2).2.1, by omega, ?_⟩
            refine And.intro (fun e2 => ?_) (fun e2 => ?_)
            · have e2 := (nI_leI (by omega) (by omega)).mp e2
              exact keep (Or.inl (by rw [b3]; exact if_neg (by show ¬ q'.2 - q'.1 < q.2 - q.1; omega)))
            · have e2 : ¬ q.2 - q.1 ≤ q'.2 - q'.1 := fun x => e2 (nI_le x (by omega))
              exact take hz (by rw [b3]; exact if_pos (by show q'.2 - q'.1 < q.2 - q.1; omega))
    refine f_run_ok (stop := fun q => Nat.beq q 4) hX 20 _ _ _ _ _ ?_
    exact loop ps [] (-1) rfl (Or.inl ⟨rfl, rfl⟩)
def S_fsh : fSp := fun G As M R => match As with
  | [.ref 100, .int zv] => ∃ (rs : List fRl) (c kd v : Nat) (ps : List (Nat × Nat)), G = f_GM ∧ f_FW M rs c kd ps ∧ zv = nI v ∧ v < 100 ∧ R G (some (.int (nI (f_opv ((f_ops rs c kd ps).foldl (f_sS v) none))))) M
  | _ => False
set_option maxRecDepth 20000 in
theorem m_fsh : f_Meets 4 (kX12_freeOfShortest S_lof) S_fsh := by
  intro G As M R hsp X hX hW
  match As, hsp with
  | [.ref 100, .int zv], ⟨rs, c, kd, v, ps, hG, hF, hzv, hv, hsp⟩ =>
    subst hG; subst hzv
    have hl := hF.1.2.1
    have loop : ∀ (r dn : List (Nat × Nat)) (z : Int32), dn ++ r = ps → f_BI rs c kd ps dn.length ((f_ops rs c kd dn).foldl (f_sS v) none) z → X f_GM 4 [some (.ref 100), some (.int (nI v)), some (.int z), some (.int (nI dn.length))] [] M := by
      intro r
      induction r with
      | nil =>
        intro dn z hd hb
        rw [List.append_nil] at hd
        subst hd
        refine f_run_ok (stop := fun q => false) hX 30 _ _ _ _ _ ?_
        refine And.intro (fun _ => ?_) (fun e => ?_)
        · rcases hb with ⟨b1, b2⟩ | ⟨j, q, b1, b2, b3, b4⟩
          · subst b2
            rw [b1] at hsp
            exact And.intro (fun _ => hsp) (fun e => absurd rfl e)
          · subst b4
            rw [b3] at hsp
            obtain ⟨a0, a2, a3, _⟩ := hF.at b2
            refine And.intro (fun e => absurd e (f_n1 (by omega))) (fun _ => ?_)
            exact And.intro a2 (f_fin hsp (congrArg (fun z => some (Value.int z)) a3.symm) rfl)
        · have e : ¬ M.1 100 17 ≤ nI dn.length := e
          rw [hF.1.1] at e
          exact absurd (nI_le (Nat.le_refl _) (by omega)) e
      | cons q r ih =>
        intro dn z hd hb
        obtain ⟨h1, h2, h3, h4⟩ := f_split hd
        obtain ⟨a0, a2, a3, a4, a5, a6, _, _⟩ := hF.at h1
        have es := f_ops_snoc rs c kd dn q
        have next : ∀ z2 : Int32, f_BI rs c kd ps (dn.length + 1) ((f_ops rs c kd (dn ++ [q])).foldl (f_sS v) none) z2 → X f_GM 53 [some (.ref 100), some (.int (nI v)), some (.int z), some (.int (nI dn.length))] [.int z2] M := by
          intro z2 h
          rw [← h3] at h
          have q1 := ih (dn ++ [q]) z2 h2 h
          rw [h3, nI_succ] at q1
          exact f_run_ok (stop := fun q => Nat.beq q 4) hX 20 _ _ _ _ _ q1
        have keep : f_sS v ((f_ops rs c kd dn).foldl (f_sS v) none) (q.1, q.2, f_frb rs q.1 q.2 c kd) = (f_ops rs c kd dn).foldl (f_sS v) none ∨ f_frb rs q.1 q.2 c kd = 0 → X f_GM 52 [some (.ref 100), some (.int (nI v)), some (.int z), some (.int (nI dn.length))] [] M := by
          intro h
          refine f_run_ok (stop := fun q => Nat.beq q 53) hX 20 _ _ _ _ _ ?_
          refine next z ?_
          have e : (f_ops rs c kd (dn ++ [q])).foldl (f_sS v) none = (f_ops rs c kd dn).foldl (f_sS v) none := by
            rw [es, List.foldl_append]
            unfold f_opq
            by_cases hz : f_frb rs q.1 q.2 c kd = 0
            · rw [if_pos hz]; rfl
            · rw [if_neg hz]
              exact h.elim id (fun e => absurd e hz)
          rw [e]
          rcases hb with b | ⟨j, q', b1, b2, b3, b4⟩
          · exact Or.inl b
          · exact Or.inr ⟨j, q', by omega, b2, b3, b4⟩
        have take : ¬ f_frb rs q.1 q.2 c kd = 0 → f_sS v ((f_ops rs c kd dn).foldl (f_sS v) none) (q.1, q.2, f_frb rs q.1 q.2 c kd) = some (q.1, q.2, f_frb rs q.1 q.2 c kd) → X f_GM 48 [some (.ref 100), some (.int (nI v)), some (.int z), some (.int (nI dn.length))] [] M := by
          intro hz h
          refine f_run_ok (stop := fun q => Nat.beq q 53) hX 20 _ _ _ _ _ ?_
          refine next (nI dn.length) (Or.inr ⟨dn.length, q, by omega, h1, ?_, rfl⟩)
          rw [es, List.foldl_append]
          unfold f_opq
          rw [if_neg hz]
          exact h
        refine f_run_ok (stop := fun q => Nat.beq q 48 || Nat.beq q 52) hX 40 _ _ _ _ _ ?_
        refine And.intro (fun e => ?_) (fun _ => And.intro a2 ?_)
        · have e : M.1 100 17 ≤ nI dn.length := e
          rw [hF.1.1] at e
          exact absurd ((nI_leI (by omega) (by omega)).mp e) (by omega)
        refine And.intro (fun e => ?_) (fun e => ?_)
        · have e : M.1 107 (nI dn.length).toNatClampNeg = 0 := e
          rw [a3] at e
          exact keep (Or.inr ((nI_eq (b := 0) (by omega) (by omega)).mp e))
        · have e : ¬ M.1 107 (nI dn.length).toNatClampNeg = 0 := e
          rw [a3] at e
          have hz : ¬ f_frb rs q.1 q.2 c kd = 0 := fun x => e (by rw [x]; rfl)
          refine ⟨dn.length, q.1, q.2, rfl, rfl, a0, (hF.1.2.2 _ _ h1).1, (hF.1.2.2 _ _ h1).2.1, by omega, ?_⟩
          refine And.intro (fun e1 => ?_) (fun e1 => ?_)
          · have e1 := (nI_leI (by omega) (by omega)).mp e1
            refine keep (Or.inl ?_)
            rcases hb with ⟨b1, b2⟩ | ⟨j, q', b1, b2, b3, b4⟩
            · rw [b1]; exact if_neg (by show ¬ v < q.2 - q.1; omega)
            · rw [b3]; exact if_neg (by show ¬ (v < q.2 - q.1 ∧ _); omega)
          · have e1 : ¬ q.2 - q.1 ≤ v := fun x => e1 (nI_le x (by omega))
            rcases hb with ⟨b1, b2⟩ | ⟨j, q', b1, b2, b3, b4⟩
            · subst b2
              refine And.intro (fun _ => take hz (by rw [b1]; exact if_pos (by show v < q.2 - q.1; omega))) (fun e => absurd rfl e)
            · subst b4
              obtain ⟨c0, _, _, _, c5, c6, _, _⟩ := hF.at b2
              refine And.intro (fun e => absurd e (f_n1 (by omega))) (fun _ => ?_)
              refine ⟨dn.length, q.1, q.2, rfl, rfl, a0, (hF.1.2.2 _ _ h1).1, (hF.1.2.2 _ _ h1).2.1, by omega, j, q'.1, q'.2, rfl, rfl, c0, (hF.1.2.2 _ _ b2).1, (hF.1.2.2 _ _ b2).2.1, by omega, ?_⟩
              refine And.intro (fun e2 => ?_) (fun e2 => ?_)
              · have e2 := (nI_leI (by omega) (by omega)).mp e2
                exact keep (Or.inl (by rw [b3]; exact if_neg (by show ¬ (v < q.2 - q.1 ∧ q.2 - q.1 < q'.2 - q'.1); omega)))
              · have e2 : ¬ q'.2 - q'.1 ≤ q.2 - q.1 := fun x => e2 (nI_le x (by omega))
                exact take hz (by rw [b3]; exact if_pos (by show v < q.2 - q.1 ∧ q.2 - q.1 < q'.2 - q'.1; omega))
    refine f_run_ok (stop := fun q => Nat.beq q 4) hX 20 _ _ _ _ _ ?_
    exact loop ps [] (-1) rfl (Or.inl ⟨rfl, rfl⟩)
