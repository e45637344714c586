/-! ===== Shape: the lengths, the shortest first ===== -/
def f_ins (x : Nat) : List Nat → List Nat
  | [] => [x]
  | a :: l => if a ≤ x then a :: f_ins x l else x :: a :: l
theorem f_ins_split (x : Nat) : ∀ (l : List Nat) (s : Nat), s ≤ l.length → (∀ j y, j < s → l[j]? = some y → y ≤ x) → (∀ j y, s ≤ j → l[j]? = some y → x < y) → f_ins x l = l.take s ++ x :: l.drop s := by
  intro l
  induction l with
  | nil => intro s h1 _ _; simp at h1; subst h1; rfl
  | cons a l ih =>
    intro s h1 h2 h3
    cases s with
    | zero =>
      have := h3 0 a (Nat.zero_le _) rfl
      unfold f_ins
      rw [if_neg (by omega)]; rfl
    | succ s =>
      have := h2 0 a (by omega) rfl
      unfold f_ins
      rw [if_pos this, ih s (by simpa using h1) (fun j y hj hy => h2 (j + 1) y (by omega) (by simpa using hy)) (fun j y hj hy => h3 (j + 1) y (by omega) (by simpa using hy))]
      rfl
theorem f_ins_len (x : Nat) : ∀ l : List Nat, (f_ins x l).length = l.length + 1 := by
  intro l
  induction l with
  | nil => rfl
  | cons a l ih => unfold f_ins; split <;> simp [ih]
theorem f_ins_mem {x y : Nat} : ∀ l : List Nat, y ∈ f_ins x l → y = x ∨ y ∈ l := by
  intro l
  induction l with
  | nil => intro h; simp [f_ins] at h; exact Or.inl h
  | cons a l ih =>
    intro h
    unfold f_ins at h
    split at h
    · rcases List.mem_cons.mp h with h | h
      · exact Or.inr (h ▸ List.mem_cons_self)
      · rcases ih h with h | h
        · exact Or.inl h
        · exact Or.inr (List.mem_cons_of_mem _ h)
    · rcases List.mem_cons.mp h with h | h
      · exact Or.inl h
      · exact Or.inr h
def f_sd (l : List Nat) : Prop := ∀ (i j x y : Nat), i ≤ j → l[i]? = some x → l[j]? = some y → x ≤ y
theorem f_sd_cons {a : Nat} {l : List Nat} (h : f_sd (a :: l)) : f_sd l ∧ ∀ y ∈ l, a ≤ y := by
  refine ⟨fun i j x y hij hx hy => h (i + 1) (j + 1) x y (by omega) (by simpa using hx) (by simpa using hy), fun y hy => ?_⟩
  obtain ⟨j, hj⟩ := List.getElem?_of_mem hy
  exact h 0 (j + 1) a y (by omega) rfl (by simpa using hj)
theorem f_sd_mk {a : Nat} {l : List Nat} (h : f_sd l) (ha : ∀ y ∈ l, a ≤ y) : f_sd (a :: l) := by
  intro i j x y hij hx hy
  cases i with
  | zero =>
    cases hx
    cases j with
    | zero => cases hy; exact Nat.le_refl _
    | succ j => exact ha y (List.mem_of_getElem? (by simpa using hy))
  | succ i =>
    cases j with
    | zero => omega
    | succ j => exact h i j x y (by omega) (by simpa using hx) (by simpa using hy)
theorem f_ins_sd (x : Nat) : ∀ l : List Nat, f_sd l → f_sd (f_ins x l) := by
  intro l
  induction l with
  | nil => intro _; exact f_sd_mk (fun i j x y _ hx _ => by simp at hx) (fun y hy => by cases hy)
  | cons a l ih =>
    intro h
    obtain ⟨h1, h2⟩ := f_sd_cons h
    unfold f_ins
    split
    · rename_i hax
      refine f_sd_mk (ih h1) (fun y hy => ?_)
      rcases f_ins_mem l hy with q | q
      · omega
      · exact h2 y q
    · rename_i hax
      refine f_sd_mk h (fun y hy => ?_)
      rcases List.mem_cons.mp hy with q | q
      · omega
      · have := h2 y q; omega
def f_srt (l : List Nat) : List Nat := l.foldl (fun a x => f_ins x a) []
def f_SH (M : fMem) (l : List Nat) (T : Nat) : Prop := M.1 39 1 = nI l.length ∧ M.1 39 2 = nI T ∧ l.length ≤ 17 ∧ (∀ i x, l[i]? = some x → M.1 40 i = nI x) ∧ T ≤ 17 ∧ ∀ x ∈ l, x ≤ T
def S_add : fSp := fun G As M R => match As with
  | [.ref 39, .int z] => ∃ (l : List Nat) (T x : Nat), G = f_GX ∧ z = nI x ∧ x ≤ T ∧ f_SH M l T ∧ l.length < 17 ∧ f_sd l ∧ (∀ M', f_ex [39, 40] [] M M' → f_SH M' (f_ins x l) T → R G none M')
  | _ => False
theorem f_getElem_ins (l : List Nat) (s x : Nat) (hs : s ≤ l.length) (j y : Nat) (h : (l.take s ++ x :: l.drop s)[j]? = some y) : (j < s ∧ l[j]? = some y) ∨ (j = s ∧ y = x) ∨ (s < j ∧ l[j - 1]? = some y) := by
  by_cases h1 : j < s
  · rw [List.getElem?_append_left (by simp; omega), List.getElem?_take_of_lt h1] at h
    exact Or.inl ⟨h1, h⟩
  · rw [List.getElem?_append_right (by simp; omega)] at h
    have e : (l.take s).length = s := by simp; omega
    rw [e] at h
    by_cases h2 : j = s
    · subst h2
      rw [Nat.sub_self] at h
      exact Or.inr (Or.inl ⟨rfl, (Option.some.inj h).symm⟩)
    · rw [show j - s = (j - s - 1) + 1 by omega, List.getElem?_cons_succ, List.getElem?_drop, show s + (j - s - 1) = j - 1 by omega] at h
      exact Or.inr (Or.inr ⟨by omega, h⟩)
set_option maxRecDepth 20000 in
theorem m_add : f_Meets 4 (kX7_add S_at S_put) S_add := by
  intro G As M R hsp X hX hW
  match As, hsp with
  | [.ref 39, .int z], ⟨l, T, x, hG, hz, hx, ⟨s1, s2, s3, s4, s6, s5⟩, hl, hsd, hsp⟩ =>
    subst hG; subst hz
    -- the end: the slot is found
    have fin : ∀ (s : Nat) (M' : fMem) (o : Option Value), s ≤ l.length → f_ex [40] [] M M' → (∀ j y, j < s → l[j]? = some y → M'.1 40 j = nI y) → (∀ j y, s ≤ j → l[j]? = some y → M'.1 40 (j + 1) = nI y) → (∀ j y, s ≤ j → l[j]? = some y → x < y) → (∀ j y, j < s → l[j]? = some y → y ≤ x) → X f_GX 60 [some (.ref 39), some (.int (nI x)), some (.int (nI s)), o] [] M' := by
      intro s M' o hs he g1 g2 g3 g4
      refine f_run_ok (stop := fun q => false) hX 30 _ _ _ _ _ ?_
      have e0 : f_pt 17 40 (nI s) (nI x) M' = (f_up M'.1 40 s (nI x), M'.2) := f_pt_in (by omega) (by decide)
      have q := hsp (f_up (f_up M'.1 40 s (nI x)) 39 1 (nI l.length + 1), M'.2) (((he.mono (by decide) (by decide)).up (by decide)).up (by decide)) (by
        rw [f_ins_split x l s hs g4 g3]
        refine ⟨?_, ?_, ?_, fun j y hj => ?_, s6, fun y hy => ?_⟩
        · simp [f_up, nI_succ]
          rw [show min s l.length + (l.length - s + 1) = l.length + 1 by omega, nI_succ]
        · show f_up (f_up M'.1 40 s (nI x)) 39 1 (nI l.length + 1) 39 2 = _
          simp [f_up]
          rw [he.1 39 (by decide)]; exact s2
        · simp; omega
        · rcases f_getElem_ins l s x hs j y hj with ⟨c1, c2⟩ | ⟨c1, c2⟩ | ⟨c1, c2⟩
          · simp [f_up, show ¬ j = s by omega]; exact g1 j y c1 c2
          · simp [f_up, c1, c2]
          · simp [f_up, show ¬ j = s by omega]
            have := g2 (j - 1) y (by omega) c2
            rw [show j - 1 + 1 = j by omega] at this
            exact this
        · rcases List.mem_append.mp hy with q | q
          · exact s5 y (List.mem_of_mem_take q)
          · rcases List.mem_cons.mp q with q | q
            · omega
            · exact s5 y (List.mem_of_mem_drop q))
      have e39 : M'.1 39 1 = nI l.length := by rw [he.1 39 (by decide)]; exact s1
      rw [← e39] at q
      show R f_GX none (f_up (f_pt 17 40 (nI s) (nI x) M').1 39 1 ((f_pt 17 40 (nI s) (nI x) M').1 39 1 + 1), (f_pt 17 40 (nI s) (nI x) M').2)
      rw [e0]
      exact q
    have loop : ∀ (s : Nat) (M' : fMem), s ≤ l.length → f_ex [40] [] M M' → (∀ j y, j < s → l[j]? = some y → M'.1 40 j = nI y) → (∀ j y, s ≤ j → l[j]? = some y → M'.1 40 (j + 1) = nI y) → (∀ j y, s ≤ j → l[j]? = some y → x < y) → X f_GX 7 [some (.ref 39), some (.int (nI x)), some (.int (nI s)), some (.int (nI (l.length - s)))] [] M' := by
      intro s
      induction s with
      | zero =>
        intro M' hs he g1 g2 g3
        refine f_run_ok (stop := fun q => Nat.beq q 60 || Nat.beq q 7) hX 30 _ _ _ _ _ ?_
        refine And.intro (fun h => ?_) (fun h => ?_)
        · exact fin 0 M' _ hs he g1 g2 g3 (fun j y hj => by omega)
        · refine And.intro (fun h2 => ?_) (fun h2 => absurd (show nI 0 ≤ 0 by decide) h2)
          exact fin 0 M' _ hs he g1 g2 g3 (fun j y hj => by omega)
      | succ s ih =>
        intro M' hs he g1 g2 g3
        obtain ⟨y0, hy0⟩ : ∃ y0, l[s]? = some y0 := ⟨l[s], List.getElem?_eq_getElem (by omega)⟩
        have hy17 := s5 y0 (List.mem_of_getElem? hy0)
        have em : nI (s + 1) - 1 = nI s := nI_pred s
        have ea : f_at (17, M'.1 40) (nI (s + 1) - 1) = nI y0 := by
          rw [em, f_at_in (t := (17, M'.1 40)) (j := s) (by show s < 17; omega) (by show 17 < _; decide)]
          exact g1 s y0 (by omega) hy0
        refine f_run_ok (stop := fun q => Nat.beq q 60 || Nat.beq q 7) hX 40 _ _ _ _ _ ?_
        refine And.intro (fun h => ?_) (fun h => ?_)
        · have h : M'.1 39 1 ≤ nI (l.length - (s + 1)) := h
          rw [he.1 39 (by decide), s1] at h
          have := (nI_leI (by omega) (by omega)).mp h
          omega
        · refine And.intro (fun h2 => absurd h2 (nI_nle (by omega) (by omega))) (fun h2 => ?_)
          refine And.intro (fun h3 => ?_) (fun h3 => ?_)
          · have h3 : f_at (17, M'.1 40) (nI (s + 1) - 1) ≤ nI x := h3
            rw [ea] at h3
            have h3 := (nI_leI (by omega) (by omega)).mp h3
            refine fin (s + 1) M' _ hs he g1 g2 g3 (fun j y hj hy => ?_)
            have := hsd j s y y0 (by omega) hy hy0
            omega
          · have h3 : ¬ f_at (17, M'.1 40) (nI (s + 1) - 1) ≤ nI x := h3
            rw [ea] at h3
            have h3 : ¬ y0 ≤ x := fun z => h3 ((nI_leI (by omega) (by omega)).mpr z)
            have nx := ih (f_up M'.1 40 (s + 1) (nI y0), M'.2) (by omega) (he.up (by decide)) (fun j y hj hy => by
              show f_up M'.1 40 (s + 1) (nI y0) 40 j = nI y
              simp [f_up, show ¬ j = s + 1 by omega]
              exact g1 j y (by omega) hy) (fun j y hj hy => by
              show f_up M'.1 40 (s + 1) (nI y0) 40 (j + 1) = nI y
              by_cases hjs : j = s
              · subst hjs
                rw [hy0] at hy; cases hy
                simp [f_up]
              · simp [f_up, hjs]
                exact g2 j y (by omega) hy) (fun j y hj hy => by
              by_cases hjs : j = s
              · subst hjs
                rw [hy0] at hy; cases hy; omega
              · exact g3 j y (by omega) hy)
            have e0 : f_pt 17 40 (nI (s + 1)) (nI y0) M' = (f_up M'.1 40 (s + 1) (nI y0), M'.2) := f_pt_in (by omega) (by decide)
            rw [← e0, ← ea] at nx
            have e1 : nI (s + 1) + (-1) = nI s := pk_m1 s
            rw [← e1, show l.length - s = l.length - (s + 1) + 1 by omega, nI_succ (l.length - (s + 1))] at nx
            exact nx
    refine f_run_ok (stop := fun q => Nat.beq q 7) hX 30 _ _ _ _ _ ?_
    have := loop l.length M (Nat.le_refl _) f_ex.rf (fun j y _ hy => s4 j y hy) (fun j y hj hy => by have := (List.getElem?_eq_some_iff.mp hy).1; omega) (fun j y hj hy => by have := (List.getElem?_eq_some_iff.mp hy).1; omega)
    rw [Nat.sub_self, ← s1] at this
    exact this
