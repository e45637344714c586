/-! ===== Triangles: sort, isUnclosing, mostUnclosing ===== -/
def f_insk (g : Nat → Nat) (x : Nat) : List Nat → List Nat
  | [] => [x]
  | a :: l => if g a ≤ g x then a :: f_insk g x l else x :: a :: l
theorem f_insk_split (g : Nat → Nat) (x : Nat) : ∀ (l : List Nat) (s : Nat), s ≤ l.length → (∀ j y, j < s → l[j]? = some y → g y ≤ g x) → (∀ j y, s ≤ j → l[j]? = some y → g x < g y) → f_insk g x l = l.take s ++ x :: l.drop s := by
  intro l
  induction l with
  | nil => intro s h1 _ _; simp at h1; subst h1; rfl
  | cons a l ih =>
    intro s h1 h2 h3
    cases s with
    | zero =>
      have := h3 0 a (Nat.zero_le _) rfl
      unfold f_insk
      rw [if_neg (by omega)]; rfl
    | succ s =>
      have := h2 0 a (by omega) rfl
      unfold f_insk
      rw [if_pos this, ih s (by simpa using h1) (fun j y hj hy => h2 (j + 1) y (by omega) (by simpa using hy)) (fun j y hj hy => h3 (j + 1) y (by omega) (by simpa using hy))]
      rfl
theorem f_insk_len (g : Nat → Nat) (x : Nat) : ∀ l : List Nat, (f_insk g x l).length = l.length + 1 := by
  intro l
  induction l with
  | nil => rfl
  | cons a l ih => unfold f_insk; split <;> simp [ih]
theorem f_insk_mem {g : Nat → Nat} {x y : Nat} : ∀ l : List Nat, y ∈ f_insk g x l ↔ y = x ∨ y ∈ l := by
  intro l
  induction l with
  | nil => simp [f_insk]
  | cons a l ih =>
    unfold f_insk
    split
    · rw [List.mem_cons, ih, List.mem_cons]
      constructor
      · rintro (h | h | h)
        · exact Or.inr (Or.inl h)
        · exact Or.inl h
        · exact Or.inr (Or.inr h)
      · rintro (h | h | h)
        · exact Or.inr (Or.inl h)
        · exact Or.inl h
        · exact Or.inr (Or.inr h)
    · rw [List.mem_cons]
def f_sdk (g : Nat → Nat) : List Nat → Prop
  | [] => True
  | a :: l => (∀ y ∈ l, g a ≤ g y) ∧ f_sdk g l
theorem f_insk_sd (g : Nat → Nat) (x : Nat) : ∀ l : List Nat, f_sdk g l → f_sdk g (f_insk g x l) := by
  intro l
  induction l with
  | nil => intro _; exact ⟨fun y hy => by simp at hy, trivial⟩
  | cons a l ih =>
    intro h
    unfold f_insk
    split
    · rename_i hc
      refine ⟨fun y hy => ?_, ih h.2⟩
      rcases (f_insk_mem l).mp hy with q | q
      · rw [q]; exact hc
      · exact h.1 y q
    · rename_i hc
      refine ⟨fun y hy => ?_, h⟩
      rcases List.mem_cons.mp hy with q | q
      · rw [q]; omega
      · have := h.1 y q; omega
theorem f_sdk_get {g : Nat → Nat} : ∀ (l : List Nat), f_sdk g l → ∀ (i j x y : Nat), i ≤ j → l[i]? = some x → l[j]? = some y → g x ≤ g y := by
  intro l
  induction l with
  | nil => intro _ i j x y _ hx; simp at hx
  | cons a l ih =>
    intro h i j x y hij hx hy
    cases i with
    | zero =>
      cases j with
      | zero => rw [hx] at hy; cases hy; exact Nat.le_refl _
      | succ j =>
        have hx : a = x := by simpa using hx
        subst hx
        exact h.1 y (List.mem_of_getElem? (by simpa using hy))
    | succ i =>
      cases j with
      | zero => omega
      | succ j => exact ih h.2 i j x y (by omega) (by simpa using hx) (by simpa using hy)
def f_ordk (g : Nat → Nat) : Nat → List Nat
  | 0 => []
  | n + 1 => f_insk g n (f_ordk g n)
theorem f_ordk_len (g : Nat → Nat) : ∀ n, (f_ordk g n).length = n := by
  intro n
  induction n with
  | zero => rfl
  | succ n ih => show (f_insk g n (f_ordk g n)).length = _; rw [f_insk_len, ih]
theorem f_ordk_mem (g : Nat → Nat) : ∀ n y, y ∈ f_ordk g n ↔ y < n := by
  intro n
  induction n with
  | zero => intro y; simp [f_ordk]
  | succ n ih =>
    intro y
    show y ∈ f_insk g n (f_ordk g n) ↔ _
    rw [f_insk_mem, ih]
    omega
theorem f_ordk_sd (g : Nat → Nat) : ∀ n, f_sdk g (f_ordk g n) := by
  intro n
  induction n with
  | zero => trivial
  | succ n ih => exact f_insk_sd g n _ ih
def f_BX (M : fMem) (n : Nat) (g : Nat → Nat) : Prop := n ≤ 10 ∧ ∀ i, i < n → M.1 11 i = nI (g i) ∧ 1 ≤ g i ∧ g i < 1000
theorem f_BX.ex {M M' : fMem} {n : Nat} {g : Nat → Nat} {cs ds : List Nat} (h : f_BX M n g) (he : f_ex cs ds M M') (h0 : 11 ∉ cs) : f_BX M' n g := ⟨h.1, fun i hi => by rw [he.1 11 h0]; exact h.2 i hi⟩
theorem f_BX.at {M : fMem} {n : Nat} {g : Nat → Nat} (h : f_BX M n g) {i : Nat} (hi : i < n) : f_at (10, M.1 11) (nI i) = nI (g i) := by
  have := h.1
  rw [f_at_in (t := (10, M.1 11)) (by show i < 10; omega) (by show 10 < 2 ^ 31; omega)]
  exact (h.2 i hi).1
def f_OD (M : fMem) (l : List Nat) : Prop := ∀ j y, l[j]? = some y → M.1 49 j = nI y
def S_sort : fSp := fun G As M R => match As with
  | [.ref 48, .ref 11, .int zn] => ∃ (n : Nat) (g : Nat → Nat), G = f_GX ∧ zn = nI n ∧ f_BX M n g ∧ (∀ M', f_ex [49] [] M M' → f_OD M' (f_ordk g n) → R G none M')
  | _ => False
set_option maxRecDepth 20000 in
theorem m_sort : f_Meets 6 (kX9_sort S_at S_put) S_sort := by
  intro G As M R hsp X hX hW
  match As, hsp with
  | [.ref 48, .ref 11, .int zn], ⟨n, g, hG, hz, hB, hsp⟩ =>
    subst hG; subst hz
    have hn := hB.1
    have inner : ∀ (i : Nat) (l : List Nat) (K : ∀ (M' : fMem) u4 u5, f_ex [49] [] M M' → f_OD M' (f_insk g i l) → X f_GX 2 [some (.ref 48), some (.ref 11), some (.int (nI n)), some (.int (nI (i + 1))), u4, u5] [] M'), i < n → l.length = i → f_sdk g l → (∀ y ∈ l, y < i) → ∀ (d s t : Nat) (M' : fMem), t + d = i → s ≤ i → (s ≤ d ∨ s = 0 ∨ ∃ y, l[s - 1]? = some y ∧ g y ≤ g i) → f_ex [49] [] M M' → (∀ j y, j < s → l[j]? = some y → M'.1 49 j = nI y) → (∀ j y, s ≤ j → l[j]? = some y → M'.1 49 (j + 1) = nI y ∧ g i < g y) → X f_GX 13 [some (.ref 48), some (.ref 11), some (.int (nI n)), some (.int (nI i)), some (.int (nI s)), some (.int (nI t))] [] M' := by
      intro i l K hi hl hsd hmem
      have fin : ∀ (s : Nat) (M' : fMem) u5, s ≤ i → (s = 0 ∨ ∃ y, l[s - 1]? = some y ∧ g y ≤ g i) → f_ex [49] [] M M' → (∀ j y, j < s → l[j]? = some y → M'.1 49 j = nI y) → (∀ j y, s ≤ j → l[j]? = some y → M'.1 49 (j + 1) = nI y ∧ g i < g y) → X f_GX 76 [some (.ref 48), some (.ref 11), some (.int (nI n)), some (.int (nI i)), some (.int (nI s)), u5] [] M' := by
        intro s M' u5 hs hst he g1 g2
        have hsp2 : f_insk g i l = l.take s ++ i :: l.drop s := by
          refine f_insk_split g i l s (by omega) (fun j y hj hy => ?_) (fun j y hj hy => (g2 j y hj hy).2)
          rcases hst with h0 | ⟨z, hz, hgz⟩
          · omega
          · have := f_sdk_get l hsd j (s - 1) y z (by omega) hy hz
            omega
        refine f_run_ok (stop := fun q => Nat.beq q 2) hX 20 _ _ _ _ _ ?_
        have q := K (f_up M'.1 49 s (nI i), M'.2) (some (.int (nI s))) u5 (he.up (by decide)) (fun j y hj => by
          rw [hsp2] at hj
          show (if 49 = 49 then (if j = s then nI i else M'.1 49 j) else M'.1 49 j) = nI y
          rw [if_pos rfl]
          rcases f_getElem_ins l s i (by omega) j y hj with ⟨c1, c2⟩ | ⟨c1, c2⟩ | ⟨c1, c2⟩
          · rw [if_neg (by omega)]; exact g1 j y c1 c2
          · rw [if_pos c1, c2]
          · rw [if_neg (by omega)]
            have := (g2 (j - 1) y (by omega) c2).1
            rw [show j - 1 + 1 = j by omega] at this
            exact this)
        rw [← f_pt_in (n := 10) (by omega) (by decide), nI_succ] at q
        exact q
      intro d
      induction d with
      | zero =>
        intro s t M' ht hs hst he g1 g2
        have ht : t = i := by omega
        subst ht
        refine f_run_ok (stop := fun q => Nat.beq q 76) hX 10 _ _ _ _ _ ?_
        refine And.intro (fun h => ?_) (fun h => absurd (nI_le (Nat.le_refl t) (by omega)) h)
        refine fin s M' _ hs ?_ he g1 g2
        rcases hst with q | q
        · exact Or.inl (by omega)
        · exact q
      | succ d ih =>
        intro s t M' ht hs hst he g1 g2
        by_cases h0 : s = 0
        · subst h0
          refine f_run_ok (stop := fun q => Nat.beq q 76) hX 10 _ _ _ _ _ ?_
          refine And.intro (fun h => absurd ((nI_leI (by omega) (by omega)).mp h) (by omega)) (fun h => ?_)
          refine And.intro (fun h2 => fin 0 M' _ hs (Or.inl rfl) he g1 g2) (fun h2 => absurd (show nI 0 ≤ 0 by decide) h2)
        · obtain ⟨s', rfl⟩ : ∃ s', s = s' + 1 := ⟨s - 1, by omega⟩
          obtain ⟨y, hy⟩ : ∃ y, l[s']? = some y := ⟨l[s'], List.getElem?_eq_getElem (by omega)⟩
          have hyi := hmem y (List.mem_of_getElem? hy)
          have hB' := hB.ex he (by decide)
          have ea : f_at (10, M'.1 49) (nI (s' + 1) - 1) = nI y := by
            rw [nI_pred, f_at_in (t := (10, M'.1 49)) (by show s' < 10; omega) (by show 10 < 2 ^ 31; omega)]
            exact g1 s' y (by omega) hy
          have eb : f_at (10, M'.1 11) (f_at (10, M'.1 49) (nI (s' + 1) - 1)) = nI (g y) := by rw [ea]; exact hB'.at (by omega)
          have ec : f_at (10, M'.1 11) (nI i) = nI (g i) := hB'.at hi
          have b1 := (hB.2 y (by omega)).2.2
          have b2 := (hB.2 i hi).2.2
          refine f_run_ok (stop := fun q => Nat.beq q 76 || Nat.beq q 13) hX 60 _ _ _ _ _ ?_
          refine And.intro (fun h => absurd ((nI_leI (by omega) (by omega)).mp h) (by omega)) (fun h => ?_)
          refine And.intro (fun h2 => absurd h2 (nI_nle (by omega) (by omega))) (fun h2 => ?_)
          refine And.intro (fun h3 => ?_) (fun h3 => ?_)
          · have h3 : f_at (10, M'.1 11) (f_at (10, M'.1 49) (nI (s' + 1) - 1)) ≤ f_at (10, M'.1 11) (nI i) := h3
            rw [eb, ec] at h3
            have h3 := (nI_leI (by omega) (by omega)).mp h3
            have q := ih (s' + 1) (t + 1) M' (by omega) hs (Or.inr (Or.inr ⟨y, hy, h3⟩)) he g1 g2
            rw [nI_succ t] at q
            exact q
          · have h3 : ¬ f_at (10, M'.1 11) (f_at (10, M'.1 49) (nI (s' + 1) - 1)) ≤ f_at (10, M'.1 11) (nI i) := h3
            rw [eb, ec] at h3
            have h3 : ¬ g y ≤ g i := fun z => h3 ((nI_leI (by omega) (by omega)).mpr z)
            have nx := ih s' (t + 1) (f_up M'.1 49 (s' + 1) (nI y), M'.2) (by omega) (by omega) (by
              rcases hst with q | q | ⟨z, hz, hgz⟩
              · exact Or.inl (by omega)
              · omega
              · rw [show s' + 1 - 1 = s' from rfl, hy] at hz
                cases hz
                exact absurd hgz h3) (he.up (by decide)) (fun j w hj hw => by
              show (if 49 = 49 then (if j = s' + 1 then nI y else M'.1 49 j) else M'.1 49 j) = nI w
              rw [if_pos rfl, if_neg (by omega)]
              exact g1 j w (by omega) hw) (fun j w hj hw => by
              show (if 49 = 49 then (if j + 1 = s' + 1 then nI y else M'.1 49 (j + 1)) else M'.1 49 (j + 1)) = nI w ∧ _
              rw [if_pos rfl]
              by_cases hjs : j = s'
              · subst hjs
                rw [hy] at hw; cases hw
                rw [if_pos rfl]
                exact ⟨rfl, by omega⟩
              · rw [if_neg (by omega)]
                exact g2 j w (by omega) hw)
            rw [← f_pt_in (n := 10) (by omega) (by decide), ← ea, ← pk_m1 s', nI_succ t] at nx
            exact nx
    have outer : ∀ (d i : Nat) (M' : fMem) u4 u5, d + i = n → f_ex [49] [] M M' → f_OD M' (f_ordk g i) → X f_GX 2 [some (.ref 48), some (.ref 11), some (.int (nI n)), some (.int (nI i)), u4, u5] [] M' := by
      intro d
      induction d with
      | zero =>
        intro i M' u4 u5 hi he ho
        have hi : i = n := by omega
        subst hi
        refine f_run_ok (stop := fun q => false) hX 10 _ _ _ _ _ ?_
        exact And.intro (fun h => hsp M' he ho) (fun h => absurd (nI_le (Nat.le_refl i) (by omega)) h)
      | succ d ih =>
        intro i M' u4 u5 hi he ho
        refine f_run_ok (stop := fun q => Nat.beq q 13) hX 10 _ _ _ _ _ ?_
        refine And.intro (fun h => absurd ((nI_leI (by omega) (by omega)).mp h) (by omega)) (fun h => ?_)
        have hl := f_ordk_len g i
        exact inner i (f_ordk g i) (fun M2 v4 v5 he2 ho2 => ih (i + 1) M2 v4 v5 (by omega) he2 ho2) (by omega) hl (f_ordk_sd g i) (fun y hy => (f_ordk_mem g i y).mp hy) i i 0 M' (by omega) (by omega) (Or.inl (Nat.le_refl _)) he (fun j y _ hy => ho j y hy) (fun j y hj hy => by have := (List.getElem?_eq_some_iff.mp hy).1; omega)
    refine f_run_ok (stop := fun q => Nat.beq q 2) hX 10 _ _ _ _ _ ?_
    exact outer n 0 M none none rfl f_ex.rf (fun j y hy => by simp [f_ordk] at hy)
def f_unc (g : Nat → Nat) (s : Nat) : List Nat → Nat → Nat → Bool
  | [], _, _ => true
  | i :: l, b, u => if s.testBit i = true then (if g i < b + u then false else f_unc g s l (g i) b) else f_unc g s l b u
def S_unc : fSp := fun G As M R => match As with
  | [.ref 48, .int zs, .ref 11, .int zn] => ∃ (s n : Nat) (g : Nat → Nat) (l : List Nat), G = f_GX ∧ zs = nI s ∧ s < 2 ^ 10 ∧ zn = nI n ∧ f_BX M n g ∧ f_OD M l ∧ l.length = n ∧ (∀ y ∈ l, y < n) ∧ R G (some (.int (f_b (f_unc g s l 0 0)))) M
  | _ => False
set_option maxRecDepth 20000 in
theorem m_unc : f_Meets 9 (kX9_isUnclosing S_at S_hasBit) S_unc := by
  intro G As M R hsp X hX hW
  match As, hsp with
  | [.ref 48, .int zs, .ref 11, .int zn], ⟨s, n, g, l, hG, hzs, hs, hz, hB, hO, hl, hmem, hsp⟩ =>
    subst hG; subst hzs; subst hz
    have hn := hB.1
    have loop : ∀ (r dn : List Nat) (b u : Nat) (v7 v8 : Option Value), l = dn ++ r → b < 1000 → u < 1000 → f_unc g s r b u = f_unc g s l 0 0 → X f_GX 9 [some (.ref 48), some (.int (nI s)), some (.ref 11), some (.int (nI n)), some (.int (nI b)), some (.int (nI u)), some (.int (nI dn.length)), v7, v8] [] M := by
      intro r
      induction r with
      | nil =>
        intro dn b u v7 v8 hd hb hu hv
        have hdl : dn.length = n := by rw [← hl, hd, List.append_nil]
        refine f_run_ok (stop := fun q => false) hX 10 _ _ _ _ _ ?_
        refine And.intro (fun h => ?_) (fun h => absurd (show nI n ≤ nI dn.length by rw [hdl]; exact nI_le (Nat.le_refl _) (by omega)) h)
        exact And.intro rfl (f_fin hsp (f_bt hv.symm rfl) rfl)
      | cons i r ih =>
        intro dn b u v7 v8 hd hb hu hv
        have hll : l.length = dn.length + (r.length + 1) := by rw [hd, List.length_append]; rfl
        have hi : l[dn.length]? = some i := by rw [hd, List.getElem?_append_right (Nat.le_refl _), Nat.sub_self]; rfl
        have hin : i < n := hmem i (List.mem_of_getElem? hi)
        have ea : f_at (10, M.1 49) (nI dn.length) = nI i := by
          rw [f_at_in (t := (10, M.1 49)) (by show dn.length < 10; omega) (by show 10 < 2 ^ 31; omega)]
          exact hO _ _ hi
        have eb : f_at (10, M.1 11) (f_at (10, M.1 49) (nI dn.length)) = nI (g i) := by rw [ea]; exact hB.at hin
        have ec : f_bit (nI s) (f_at (10, M.1 49) (nI dn.length)) = s.testBit i := by rw [ea]; exact n_bit (by omega) (by omega)
        have bg := (hB.2 i hin).2.2
        have hd2 : l = (dn ++ [i]) ++ r := by rw [hd, List.append_assoc]; rfl
        have hl2 : (dn ++ [i]).length = dn.length + 1 := by rw [List.length_append]; rfl
        refine f_run_ok (stop := fun q => Nat.beq q 9) hX 60 _ _ _ _ _ ?_
        refine And.intro (fun h => absurd ((nI_leI (by omega) (by omega)).mp h) (by omega)) (fun h => ?_)
        refine And.intro (fun h2 => ?_) (fun h2 => ?_)
        · have h2 : f_b (f_bit (nI s) (f_at (10, M.1 49) (nI dn.length))) = 0 := h2
          rw [ec] at h2
          have h2 := f_b0.mp h2
          have q := ih (dn ++ [i]) b u (some (.int (f_at (10, M.1 49) (nI dn.length)))) v8 hd2 hb hu (by
            rw [← hv]
            show _ = if _ then _ else _
            rw [if_neg (by rw [h2]; decide)])
          rw [hl2, nI_succ] at q
          exact q
        · have h2 : ¬ f_b (f_bit (nI s) (f_at (10, M.1 49) (nI dn.length))) = 0 := h2
          rw [ec] at h2
          have h2 := f_b_nt h2
          have hv2 : (if g i < b + u then false else f_unc g s r (g i) b) = f_unc g s l 0 0 := by
            rw [← hv]
            show _ = if _ then _ else _
            rw [if_pos h2]
          refine And.intro (fun h3 => ?_) (fun h3 => ?_)
          · have h3 : nI b + nI u ≤ f_at (10, M.1 11) (f_at (10, M.1 49) (nI dn.length)) := h3
            rw [eb, nI_add] at h3
            have h3 := (nI_leI (by omega) (by omega)).mp h3
            rw [if_neg (by omega)] at hv2
            have q := ih (dn ++ [i]) (g i) b (some (.int (f_at (10, M.1 49) (nI dn.length)))) (some (.int (f_at (10, M.1 11) (f_at (10, M.1 49) (nI dn.length))))) hd2 bg hb hv2
            rw [hl2, nI_succ, ← eb] at q
            exact q
          · have h3 : ¬ nI b + nI u ≤ f_at (10, M.1 11) (f_at (10, M.1 49) (nI dn.length)) := h3
            rw [eb, nI_add] at h3
            have h3 : ¬ b + u ≤ g i := fun z => h3 ((nI_leI (by omega) (by omega)).mpr z)
            rw [if_pos (by omega)] at hv2
            exact And.intro rfl (f_fin hsp (f_bf hv2.symm rfl) rfl)
    refine f_run_ok (stop := fun q => Nat.beq q 9) hX 10 _ _ _ _ _ ?_
    exact loop l [] 0 0 none none rfl (by omega) (by omega) rfl
def f_bst (P : Nat → Bool) : Nat → Nat
  | 0 => 0
  | s + 1 => if f_pc (f_bst P s) < f_pc s ∧ P s = true then s else f_bst P s
theorem f_bst_le (P : Nat → Bool) : ∀ n, f_bst P n ≤ n := by
  intro n
  induction n with
  | zero => exact Nat.le_refl _
  | succ n ih => unfold f_bst; split <;> omega
def f_mu (g : Nat → Nat) (n : Nat) : Nat := f_bst (fun s => f_unc g s (f_ordk g n) 0 0) (2 ^ n)
def S_mu : fSp := fun G As M R => match As with
  | [.ref 48, .ref 11, .int zn] => ∃ (n : Nat) (g : Nat → Nat), G = f_GX ∧ zn = nI n ∧ f_BX M n g ∧ (∀ M', f_ex [49] [] M M' → R G (some (.int (nI (f_mu g n)))) M')
  | _ => False
set_option maxRecDepth 20000 in
theorem m_mu : f_Meets 5 (kX9_mostUnclosing S_sort S_bitCount S_unc) S_mu := by
  intro G As M R hsp X hX hW
  match As, hsp with
  | [.ref 48, .ref 11, .int zn], ⟨n, g, hG, hz, hB, hsp⟩ =>
    subst hG; subst hz
    have hn := hB.1
    have hp : 2 ^ n ≤ 2 ^ 10 := Nat.pow_le_pow_right (by decide) hn
    have hp0 : 0 < 2 ^ n := Nat.pow_pos (by decide)
    refine f_run_ok (stop := fun q => Nat.beq q 6) hX 10 _ _ _ _ _ ?_
    refine ⟨n, g, rfl, rfl, hB, fun M1 he1 ho1 => ?_⟩
    unfold f_mu at hsp
    generalize hP : (fun s => f_unc g s (f_ordk g n) 0 0) = P at hsp
    have hB1 := hB.ex he1 (by decide)
    have hsh : (1 : Int32) <<< (nI n &&& 31) = nI (2 ^ n) := n_shl (by omega)
    have loop : ∀ (d s : Nat), d + s = 2 ^ n → X f_GX 11 [some (.ref 48), some (.ref 11), some (.int (nI n)), some (.int (nI (f_bst P s))), some (.int (nI s))] [] M1 := by
      intro d
      induction d with
      | zero =>
        intro s hs
        have hs : s = 2 ^ n := by omega
        refine f_run_ok (stop := fun q => false) hX 10 _ _ _ _ _ ?_
        refine And.intro (fun h => ?_) (fun h => ?_)
        · exact f_fin (hsp M1 he1) (by rw [hs]) rfl
        · refine absurd ?_ h
          show (1 : Int32) <<< (nI n &&& 31) ≤ nI s
          rw [hsh, hs]
          exact nI_le (Nat.le_refl _) (by omega)
      | succ d ih =>
        intro s hs
        have hb := f_bst_le P s
        have hpc1 : f_pc s ≤ 17 := f_cnt_le _ 17
        have hpc2 : f_pc (f_bst P s) ≤ 17 := f_cnt_le _ 17
        have hv : f_bst P (s + 1) = if f_pc (f_bst P s) < f_pc s ∧ P s = true then s else f_bst P s := rfl
        refine f_run_ok (stop := fun q => Nat.beq q 11) hX 40 _ _ _ _ _ ?_
        refine And.intro (fun h => ?_) (fun h => ?_)
        · have h : (1 : Int32) <<< (nI n &&& 31) ≤ nI s := h
          rw [hsh] at h
          exact absurd ((nI_leI (by omega) (by omega)).mp h) (by omega)
        · refine ⟨s, rfl, by omega, ?_⟩
          refine ⟨f_bst P s, rfl, by omega, ?_⟩
          refine And.intro (fun h2 => ?_) (fun h2 => ?_)
          · have h2 := (nI_leI (by omega) (by omega)).mp h2
            have q := ih (s + 1) (by omega)
            rw [hv, if_neg (fun z => by omega), nI_succ] at q
            exact q
          · have h2 : ¬ f_pc s ≤ f_pc (f_bst P s) := fun z => h2 (nI_le z (by omega))
            refine ⟨s, n, g, f_ordk g n, rfl, rfl, by omega, rfl, hB1, ho1, f_ordk_len g n, fun y hy => (f_ordk_mem g n y).mp hy, ?_⟩
            have hPs : P s = f_unc g s (f_ordk g n) 0 0 := by rw [← hP]
            refine And.intro (fun h3 => ?_) (fun h3 => ?_)
            · have h3 := f_b0.mp h3
              have q := ih (s + 1) (by omega)
              rw [hv, if_neg (fun z => by rw [hPs, h3] at z; exact absurd z.2 (by decide)), nI_succ] at q
              exact q
            · have h3 := f_b_nt h3
              have q := ih (s + 1) (by omega)
              rw [hv, if_pos ⟨by omega, by rw [hPs]; exact h3⟩, nI_succ] at q
              exact q
    refine f_run_ok (stop := fun q => Nat.beq q 11) hX 10 _ _ _ _ _ ?_
    have q := loop (2 ^ n - 1) 1 (by omega)
    rw [show f_bst P 1 = 0 by show (if f_pc 0 < f_pc 0 ∧ P 0 = true then 0 else 0) = 0; split <;> rfl] at q
    exact q
