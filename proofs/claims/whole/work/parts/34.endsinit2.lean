def S_addSet : fSp := f_self 2 (kX2_addSet S_slot S_put) 20
def f_ref5 (rf : Nat → Nat → Value) (a b c : Nat) : Nat → Nat → Value := f_upR (f_upR (f_upR (f_upR (f_upR rf 41 3 (.ref 42)) 41 4 (.ref 43)) 41 0 (.ref a)) 41 1 (.ref b)) 41 2 (.ref c)
def f_lex (x' y' z' x y z : Nat) : Prop := x' < x ∨ x' = x ∧ (y' < y ∨ y' = y ∧ z' < z)
def f_ei (M0 M : fMem) (x y z : Nat) : Prop := f_ex [42] [] M0 M ∧ M.1 42 0 = 0 ∧ ∀ x' y' z', f_tv x' y' z' = true → f_lex x' y' z' x y z → M.1 42 (f_slot (f_sx x' y' z')) = nI (f_sx x' y' z')
theorem f_ei.up {M0 M : fMem} {x y z : Nat} (h : f_ei M0 M x y z) (hv : f_tv x y z = true) : f_ei M0 (f_up M.1 42 (f_slot (f_sx x y z)) (nI (f_sx x y z)), M.2) x y (z + 1) := by
  have hk := f_tv_ok hv
  have hs := f_set_slot hk.1
  refine ⟨h.1.up (by decide), ?_, fun x' y' z' hv' hl => ?_⟩
  · show (if 42 = 42 then (if 0 = f_slot (f_sx x y z) then nI (f_sx x y z) else M.1 42 0) else M.1 42 0) = 0
    rw [if_pos rfl, if_neg, h.2.1]
    intro q
    have e := hs.2
    rw [← q] at e
    exact hk.2 e.symm
  · show (if 42 = 42 then (if f_slot (f_sx x' y' z') = f_slot (f_sx x y z) then nI (f_sx x y z) else M.1 42 (f_slot (f_sx x' y' z'))) else M.1 42 (f_slot (f_sx x' y' z'))) = _
    rw [if_pos rfl]
    by_cases q : f_slot (f_sx x' y' z') = f_slot (f_sx x y z)
    · rw [if_pos q]
      have e := (f_set_slot (f_tv_ok hv').1).2
      rw [q, hs.2] at e
      rw [e]
    · rw [if_neg q]
      refine h.2.2 x' y' z' hv' ?_
      by_cases q2 : x' = x ∧ y' = y ∧ z' = z
      · exact absurd (by rw [q2.1, q2.2.1, q2.2.2]) q
      · unfold f_lex at hl ⊢
        omega
theorem f_ei.to {M0 M : fMem} {x y z X Y Z : Nat} (h : f_ei M0 M x y z) (hh : ∀ x' y' z', f_tv x' y' z' = true → f_lex x' y' z' X Y Z → f_lex x' y' z' x y z) : f_ei M0 M X Y Z := ⟨h.1, h.2.1, fun x' y' z' hv hl => h.2.2 x' y' z' hv (hh x' y' z' hv hl)⟩
theorem f_tv_d {x y z : Nat} (h : f_tv x y z = true) : 0 < x ∧ x < 17 ∧ ((y = 0 ∧ z = 0) ∨ (0 < y ∧ y < x ∧ (z = 0 ∨ (0 < z ∧ z < y)))) := by
  simp only [f_tv, Bool.and_eq_true, Bool.or_eq_true, Nat.blt, Nat.ble_eq, Nat.beq_eq] at h
  omega
theorem f_tv_i {x y z : Nat} (h : 0 < x ∧ x < 17 ∧ ((y = 0 ∧ z = 0) ∨ (0 < y ∧ y < x ∧ (z = 0 ∨ (0 < z ∧ z < y))))) : f_tv x y z = true := by
  simp only [f_tv, Bool.and_eq_true, Bool.or_eq_true, Nat.blt, Nat.ble_eq, Nat.beq_eq]
  omega
def S_endsI : fSp := fun G As M R => match As with
  | [.ref 41, .ref a, .ref b, .ref c] => G.1 = 42 ∧ f_zero M G 42 ∧ f_zero M G 43 ∧ (∀ M', f_ex [42] [] M M' → (∀ i, i < 697 → M'.1 42 i = nI (f_set i)) → R (44, f_ref5 G.2 a b c) none M')
  | _ => False
set_option maxRecDepth 20000 in
theorem m_endsI : f_Meets 7 (kX2_init 44 S_addSet) S_endsI := by
  intro G As M R hsp X hX hW
  match As, hsp with
  | [.ref 41, .ref a, .ref b, .ref c], ⟨hG, z1, z2, hsp⟩ =>
    obtain ⟨n, rf⟩ := G
    have hG : n = 42 := hG
    subst hG
    have fin : ∀ (M' : fMem) (ls : fL), f_ei M M' 17 0 0 → X (44, f_ref5 rf a b c) 124 ls [] M' := by
      intro M' ls h
      refine f_run_ok (stop := fun q => false) hX 10 _ _ _ _ _ ?_
      refine And.intro rfl (hsp M' h.1 fun i hi => ?_)
      by_cases h0 : i = 0
      · rw [h0]; exact h.2.1
      · obtain ⟨x, y, z, hv, he⟩ := f_set_sx hi h0
        have := h.2.2 x y z hv (Or.inl (f_tv_d hv).2.1)
        rw [← he, (f_set_ok hi).2] at this
        exact this
    have loz : ∀ (d x y z : Nat) (M' : fMem), d + z = y → 0 < z → 0 < y → y < x → x < 17 → f_ei M M' x y z → (∀ M2 w, f_ei M M2 x (y + 1) 0 → X (44, f_ref5 rf a b c) 58 [some (.ref 41), some (.ref a), some (.ref b), some (.ref c), some (.int (nI x)), some (.int (nI (y + 1))), w] [] M2) → X (44, f_ref5 rf a b c) 81 [some (.ref 41), some (.ref a), some (.ref b), some (.ref c), some (.int (nI x)), some (.int (nI y)), some (.int (nI z))] [] M' := by
      intro d
      induction d with
      | zero =>
        intro x y z M' hd hz hy hyx hx hI hK
        refine f_run_ok (stop := fun q => Nat.beq q 58) hX 30 _ _ _ _ _ ?_
        refine And.intro (fun h => ?_) (fun h => absurd ((nI_leI (a := y) (b := z) (by omega) (by omega)).mpr (by omega)) h)
        have q := hK M' (some (.int (nI z))) (hI.to fun x' y' z' hv hl => by have := f_tv_d hv; unfold f_lex at hl ⊢; omega)
        rw [nI_succ] at q
        exact q
      | succ d ih =>
        intro x y z M' hd hz hy hyx hx hI hK
        have hv : f_tv x y z = true := f_tv_i (by omega)
        have hk := (f_tv_ok hv).1
        have hs := f_set_slot hk
        refine f_run_ok (stop := fun q => Nat.beq q 81) hX 50 _ _ _ _ _ ?_
        refine And.intro (fun h => absurd ((nI_leI (a := y) (b := z) (by omega) (by omega)).mp h) (by omega)) (fun h => ?_)
        have e : (1 : Int32) <<< (nI x &&& 31) ||| (1 : Int32) <<< (nI y &&& 31) ||| (1 : Int32) <<< (nI z &&& 31) = nI (f_sx x y z) := by
          rw [n_shl (by omega), n_shl (by omega), n_shl (by omega), fa_or, fa_or, f_sx, if_neg (by omega), if_neg (by omega)]
        refine ⟨f_sx x y z, e, hk.1, hk.2.1, hk.2.2, ?_⟩
        have q := ih x y (z + 1) _ (by omega) (by omega) hy hyx hx (hI.up hv) hK
        rw [← f_pt_in (n := 697) hs.1 (by decide), nI_succ, ← e] at q
        exact q
    have loy : ∀ (d x y : Nat) (M' : fMem) (w : Option Value), d + y = x → 0 < y → x < 17 → f_ei M M' x y 0 → (∀ M2 w1 w2, f_ei M M2 (x + 1) 0 0 → X (44, f_ref5 rf a b c) 40 [some (.ref 41), some (.ref a), some (.ref b), some (.ref c), some (.int (nI (x + 1))), w1, w2] [] M2) → X (44, f_ref5 rf a b c) 58 [some (.ref 41), some (.ref a), some (.ref b), some (.ref c), some (.int (nI x)), some (.int (nI y)), w] [] M' := by
      intro d
      induction d with
      | zero =>
        intro x y M' w hd hy hx hI hK
        refine f_run_ok (stop := fun q => Nat.beq q 40) hX 30 _ _ _ _ _ ?_
        refine And.intro (fun h => ?_) (fun h => absurd ((nI_leI (a := x) (b := y) (by omega) (by omega)).mpr (by omega)) h)
        have q := hK M' (some (.int (nI y))) w (hI.to fun x' y' z' hv hl => by have := f_tv_d hv; unfold f_lex at hl ⊢; omega)
        rw [nI_succ] at q
        exact q
      | succ d ih =>
        intro x y M' w hd hy hx hI hK
        have hv : f_tv x y 0 = true := f_tv_i (by omega)
        have hk := (f_tv_ok hv).1
        have hs := f_set_slot hk
        refine f_run_ok (stop := fun q => Nat.beq q 81) hX 50 _ _ _ _ _ ?_
        refine And.intro (fun h => absurd ((nI_leI (a := x) (b := y) (by omega) (by omega)).mp h) (by omega)) (fun h => ?_)
        have e : (1 : Int32) <<< (nI x &&& 31) ||| (1 : Int32) <<< (nI y &&& 31) = nI (f_sx x y 0) := by
          rw [n_shl (by omega), n_shl (by omega), fa_or, f_sx, if_neg (by omega), if_pos rfl]
        refine ⟨f_sx x y 0, e, hk.1, hk.2.1, hk.2.2, ?_⟩
        have q := loz (y - 1) x y 1 _ (by omega) (by omega) hy (by omega) hx (hI.up hv) (fun M2 w2 h2 => ih x (y + 1) M2 w2 (by omega) (by omega) hx h2 hK)
        rw [← f_pt_in (n := 697) hs.1 (by decide), ← e] at q
        exact q
    have lox : ∀ (d x : Nat) (M' : fMem) (w1 w2 : Option Value), d + x = 17 → 0 < x → f_ei M M' x 0 0 → X (44, f_ref5 rf a b c) 40 [some (.ref 41), some (.ref a), some (.ref b), some (.ref c), some (.int (nI x)), w1, w2] [] M' := by
      intro d
      induction d with
      | zero =>
        intro x M' w1 w2 hd h0 hI
        have hd : x = 17 := by omega
        subst hd
        refine f_run_ok (stop := fun q => Nat.beq q 124) hX 30 _ _ _ _ _ ?_
        refine And.intro (fun h => fin _ _ hI) (fun h => absurd ((nI_leI (a := 17) (b := 17) (by omega) (by omega)).mpr (by omega)) h)
      | succ d ih =>
        intro x M' w1 w2 hd h0 hI
        have hv : f_tv x 0 0 = true := f_tv_i (by omega)
        have hk := (f_tv_ok hv).1
        have hs := f_set_slot hk
        refine f_run_ok (stop := fun q => Nat.beq q 58) hX 50 _ _ _ _ _ ?_
        refine And.intro (fun h => absurd ((nI_leI (a := 17) (b := x) (by omega) (by omega)).mp h) (by omega)) (fun h => ?_)
        have e : (1 : Int32) <<< (nI x &&& 31) = nI (f_sx x 0 0) := by
          rw [n_shl (by omega), f_sx, if_pos rfl]
        refine ⟨f_sx x 0 0, e, hk.1, hk.2.1, hk.2.2, ?_⟩
        have q := loy (x - 1) x 1 _ w2 (by omega) (by omega) (by omega) ((hI.up hv).to fun x' y' z' hv hl => by have := f_tv_d hv; unfold f_lex at hl ⊢; omega) (fun M2 u1 u2 h2 => ih (x + 1) M2 u1 u2 (by omega) (by omega) h2)
        rw [← f_pt_in (n := 697) hs.1 (by decide), ← e] at q
        exact q
    refine f_run_ok (stop := fun q => Nat.beq q 40) hX 50 _ _ _ _ _ ?_
    refine And.intro rfl (And.intro z1 ?_)
    refine And.intro rfl (And.intro z2 ?_)
    exact lox 16 1 M none none rfl (by omega) ⟨f_ex.rf, z1.1 0, fun x' y' z' hv hl => by have := f_tv_d hv; unfold f_lex at hl; omega⟩
