/-! ===== the reference: looks ===== -/
abbrev fIt : Type := Nat ⊕ (Bool × Nat)
def f_itI : fIt → Int32
  | .inl t => f_rst t
  | .inr q => f_rsE q
def f_it (rs : List fRl) : List fIt := rs.flatMap (fun q => q.2.2.map Sum.inl ++ [Sum.inr (q.1, q.2.1)])
theorem f_it_rsL (rs : List fRl) : (f_it rs).map f_itI = f_rsL rs := by
  unfold f_it f_rsL
  rw [List.map_flatMap]
  congr 1
  funext q
  rw [List.map_append, List.map_map]
  rfl
abbrev fLk : Type := List Bool × Nat × Nat
def f_ls1 (ev : Nat → Bool) (σ : fLk) : fIt → fLk
  | .inl t => (f_stp ev σ.1 t, σ.2)
  | .inr q => ([], if q.1 = false ∧ σ.1 = [true] then σ.2.1 + q.2 else σ.2.1, if q.1 = true ∧ σ.1 = [true] then σ.2.2 + q.2 else σ.2.2)
def f_wfI : List fIt → Nat → Prop
  | [], d => d = 0
  | .inl t :: l, d => if t < 2000 then d + 1 ≤ 60 ∧ f_wfI l (d + 1) else if t = 2000 then 1 ≤ d ∧ f_wfI l d else 2 ≤ d ∧ f_wfI l (d - 1)
  | .inr q :: l, d => d = 1 ∧ q.2 < 100 ∧ f_wfI l 0
theorem f_wfI_app (q : Bool × Nat) (hq : q.2 < 100) (rest : List fIt) (hr : f_wfI rest 0) : ∀ (ts : List Nat) (d : Nat), f_wf ts d → f_wfI (ts.map Sum.inl ++ Sum.inr q :: rest) d := by
  intro ts
  induction ts with
  | nil => intro d h; exact ⟨h, hq, hr⟩
  | cons t ts ih =>
    intro d h
    have h : if t < 2000 then d + 1 ≤ 60 ∧ f_wf ts (d + 1) else if t = 2000 then 1 ≤ d ∧ f_wf ts d else 2 ≤ d ∧ f_wf ts (d - 1) := h
    show if t < 2000 then d + 1 ≤ 60 ∧ f_wfI (ts.map Sum.inl ++ Sum.inr q :: rest) (d + 1) else if t = 2000 then 1 ≤ d ∧ f_wfI (ts.map Sum.inl ++ Sum.inr q :: rest) d else 2 ≤ d ∧ f_wfI (ts.map Sum.inl ++ Sum.inr q :: rest) (d - 1)
    by_cases h1 : t < 2000
    · rw [if_pos h1] at h ⊢
      exact ⟨h.1, ih _ h.2⟩
    · rw [if_neg h1] at h ⊢
      by_cases h2 : t = 2000
      · rw [if_pos h2] at h ⊢
        exact ⟨h.1, ih _ h.2⟩
      · rw [if_neg h2] at h ⊢
        exact ⟨h.1, ih _ h.2⟩
theorem f_wfI_rs : ∀ rs : List fRl, f_rok rs → f_wfI (f_it rs) 0 := by
  intro rs
  induction rs with
  | nil => intro _; rfl
  | cons q rs ih =>
    intro h
    have hq := h q List.mem_cons_self
    have hr := ih (fun x hx => h x (List.mem_cons_of_mem _ hx))
    have e : f_it (q :: rs) = q.2.2.map Sum.inl ++ Sum.inr (q.1, q.2.1) :: f_it rs := by
      unfold f_it
      rw [List.flatMap_cons, List.append_assoc]
      rfl
    rw [e]
    exact f_wfI_app (q.1, q.2.1) hq.1 _ hr _ _ hq.2
def f_hsm (rs : List fRl) (f t c k x : Nat) : Nat := (rs.map (fun q => if q.1 = false ∧ f_hold q.2.2 f t c k x = true then q.2.1 else 0)).sum
def f_psm (rs : List fRl) (f t c k x : Nat) : Nat := (rs.map (fun q => if q.1 = true ∧ f_hold q.2.2 f t c k x = true then q.2.1 else 0)).sum
theorem f_fold_inl (ev : Nat → Bool) : ∀ (ts : List Nat) (σ : fLk), (ts.map Sum.inl).foldl (f_ls1 ev) σ = (f_ev ev ts σ.1, σ.2) := by
  intro ts
  induction ts with
  | nil => intro σ; rfl
  | cons t ts ih =>
    intro σ
    show (ts.map Sum.inl).foldl (f_ls1 ev) (f_stp ev σ.1 t, σ.2) = _
    rw [ih]
    rfl
theorem f_stp_len (ev : Nat → Bool) {st : List Bool} {t d : Nat} (hd : st.length = d) : (t < 2000 → (f_stp ev st t).length = d + 1) ∧ (t = 2000 → 1 ≤ d → (f_stp ev st t).length = d) ∧ (¬ t < 2000 → ¬ t = 2000 → 2 ≤ d → (f_stp ev st t).length = d - 1) := by
  refine ⟨fun h => ?_, fun h h2 => ?_, fun h h2 h3 => ?_⟩
  · unfold f_stp; rw [if_pos h]; simp [hd]
  · unfold f_stp
    rw [if_neg (by omega), if_pos h]
    cases st with
    | nil => simp at hd; omega
    | cons a s => simpa using hd
  · unfold f_stp
    rw [if_neg h, if_neg h2]
    cases st with
    | nil => simp at hd; omega
    | cons a s =>
      cases s with
      | nil => simp at hd; omega
      | cons b s => simp at hd ⊢; omega
theorem f_ev_one (ev : Nat → Bool) : ∀ (ts : List Nat) (st : List Bool), f_wf ts st.length → (f_ev ev ts st).length = 1 := by
  intro ts
  induction ts with
  | nil => intro st h; exact h
  | cons t ts ih =>
    intro st h
    have h : if t < 2000 then st.length + 1 ≤ 60 ∧ f_wf ts (st.length + 1) else if t = 2000 then 1 ≤ st.length ∧ f_wf ts st.length else 2 ≤ st.length ∧ f_wf ts (st.length - 1) := h
    obtain ⟨l1, l2, l3⟩ := f_stp_len ev (st := st) (t := t) rfl
    show (f_ev ev ts (f_stp ev st t)).length = 1
    by_cases h1 : t < 2000
    · rw [if_pos h1] at h
      exact ih _ (by rw [l1 h1]; exact h.2)
    · rw [if_neg h1] at h
      by_cases h2 : t = 2000
      · rw [if_pos h2] at h
        exact ih _ (by rw [l2 h2 h.1]; exact h.2)
      · rw [if_neg h2] at h
        exact ih _ (by rw [l3 h1 h2 h.1]; exact h.2)
theorem f_it_fold (f t c k x : Nat) : ∀ (rs : List fRl) (h p : Nat), f_rok rs → (f_it rs).foldl (f_ls1 (fun q => f_tst q f t c k x)) ([], h, p) = ([], h + f_hsm rs f t c k x, p + f_psm rs f t c k x) := by
  intro rs
  induction rs with
  | nil => intro h p _; rfl
  | cons q rs ih =>
    intro h p hr
    have hq := hr q List.mem_cons_self
    have e : f_it (q :: rs) = q.2.2.map Sum.inl ++ Sum.inr (q.1, q.2.1) :: f_it rs := by
      unfold f_it
      rw [List.flatMap_cons, List.append_assoc]
      rfl
    have h1 := f_ev_one (fun q => f_tst q f t c k x) q.2.2 [] hq.2
    have hh : f_hold q.2.2 f t c k x = true ↔ f_ev (fun q => f_tst q f t c k x) q.2.2 [] = [true] := by
      unfold f_hold
      generalize f_ev (fun q => f_tst q f t c k x) q.2.2 [] = s at *
      cases s with
      | nil => simp at h1
      | cons a s =>
        cases s with
        | nil => simp
        | cons b s => simp at h1
    rw [e, List.foldl_append, f_fold_inl, List.foldl_cons]
    show (f_it rs).foldl _ ([], (if q.1 = false ∧ f_ev (fun q => f_tst q f t c k x) q.2.2 [] = [true] then h + q.2.1 else h), (if q.1 = true ∧ f_ev (fun q => f_tst q f t c k x) q.2.2 [] = [true] then p + q.2.1 else p)) = _
    rw [ih _ _ (fun x hx => hr x (List.mem_cons_of_mem _ hx))]
    unfold f_hsm f_psm
    rw [List.map_cons, List.sum_cons, List.map_cons, List.sum_cons]
    refine Prod.ext rfl (Prod.ext ?_ ?_)
    · show (if q.1 = false ∧ f_ev (fun q => f_tst q f t c k x) q.2.2 [] = [true] then h + q.2.1 else h) + _ = h + ((if q.1 = false ∧ f_hold q.2.2 f t c k x = true then q.2.1 else 0) + _)
      by_cases hb : q.1 = false ∧ f_hold q.2.2 f t c k x = true
      · rw [if_pos hb, if_pos ⟨hb.1, hh.mp hb.2⟩]; omega
      · rw [if_neg hb, if_neg (fun z => hb ⟨z.1, hh.mpr z.2⟩)]; omega
    · show (if q.1 = true ∧ f_ev (fun q => f_tst q f t c k x) q.2.2 [] = [true] then p + q.2.1 else p) + _ = p + ((if q.1 = true ∧ f_hold q.2.2 f t c k x = true then q.2.1 else 0) + _)
      by_cases hb : q.1 = true ∧ f_hold q.2.2 f t c k x = true
      · rw [if_pos hb, if_pos ⟨hb.1, hh.mp hb.2⟩]; omega
      · rw [if_neg hb, if_neg (fun z => hb ⟨z.1, hh.mpr z.2⟩)]; omega
def f_TS (M : fMem) : List Bool → Prop
  | [] => True
  | b :: s => M.1 104 s.length = f_b b ∧ f_TS M s
theorem f_TS.up {M : fMem} {k : Nat} {w : Int32} : ∀ {st : List Bool}, f_TS M st → st.length ≤ k → f_TS (f_up M.1 104 k w, M.2) st := by
  intro st
  induction st with
  | nil => intro _ _; trivial
  | cons b s ih =>
    intro h hk
    have hk : s.length + 1 ≤ k := hk
    refine ⟨?_, ih h.2 (by omega)⟩
    show f_up M.1 104 k w 104 s.length = _
    rw [f_upo (by omega)]
    exact h.1
theorem f_TS.cg {M M' : fMem} : ∀ {st : List Bool}, f_TS M st → M'.1 104 = M.1 104 → f_TS M' st := by
  intro st
  induction st with
  | nil => intro _ _; trivial
  | cons b s ih => intro h e; exact ⟨by rw [e]; exact h.1, ih h.2 e⟩
def f_by (M : fMem) (f t c k x : Nat) : Prop := ∀ l, l < 5 → M.1 103 l = nI (f_val l f t c k x)
def f_LKL : List Nat := [103, 104, 1011, 1012]
def S_lk : fSp := fun G As M R => match As with
  | [.ref 100, .int zb, .int zx, .int zf, .int zt, .int zc] => ∃ (y : fYd) (b x f t c kd : Nat), G = f_GM ∧ f_HR 101 y M ∧ f_rok y.2.2 ∧ zb = nI b ∧ b < 6 ∧ M.1 101 (9 + b) = nI kd ∧ kd < 7 ∧ zx = nI x ∧ zf = nI f ∧ zt = nI t ∧ zc = nI c ∧ f < x ∧ x < t ∧ t ≤ 17 ∧ c < 100 ∧ (∀ M', f_em f_LKL M M' → M'.1 100 11 = nI (f_hsm y.2.2 f t c kd x) → M'.1 100 12 = nI (f_psm y.2.2 f t c kd x) → R G none M')
  | _ => False
theorem f_rst_test {t : Nat} (h : t < 2000) : f_rst t = nI (t / 300 + 8 * (t / 100 % 3) + 32 * (t % 100)) := if_pos h
theorem f_rst_not : f_rst 2000 = -1 := rfl
theorem f_rst_and : f_rst 2001 = -2 := rfl
theorem f_rst_or {t : Nat} (h1 : ¬ t < 2000) (h2 : ¬ t = 2000) (h3 : ¬ t = 2001) : f_rst t = -3 := by
  unfold f_rst; rw [if_neg h1, if_neg h2, if_neg h3]
theorem f_stq {a h v : Nat} (ha : a < 8) (hh : h < 4) : (a + 8 * h + 32 * v) % 8 = a ∧ (a + 8 * h + 32 * v) / 8 % 4 = h ∧ (a + 8 * h + 32 * v) / 32 = v := by omega
theorem f_negE (n : Nat) (hn : n < 100) : ∀ p : Bool, f_rsE (p, n) < 0 ∧ ¬ f_rsE (p, n) = -1 ∧ f_rsE (p, n) ≤ -10 ∧ (p = true → f_rsE (p, n) ≤ -200 ∧ -200 - f_rsE (p, n) = nI n) ∧ (p = false → ¬ f_rsE (p, n) ≤ -200 ∧ -10 - f_rsE (p, n) = nI n) := by
  have : ∀ n, n < 100 → ∀ p : Bool, f_rsE (p, n) < 0 ∧ ¬ f_rsE (p, n) = -1 ∧ f_rsE (p, n) ≤ -10 ∧ (p = true → f_rsE (p, n) ≤ -200 ∧ -200 - f_rsE (p, n) = nI n) ∧ (p = false → ¬ f_rsE (p, n) ≤ -200 ∧ -10 - f_rsE (p, n) = nI n) := by decide +kernel
  exact this n hn
