/-! ===== the reference: a yard is read: words, signs, numbers ===== -/
def f_stx (i : Nat) : List Int32 := f_sbyt.getD i []
def S_cod : fSp := fun G As M R => match As with
  | [.ref r] => ∃ i : Nat, r = 2000 + i ∧ i < 6 ∧ R G (some (.int 0)) M
  | _ => False
theorem f_six {i : Nat} (h : i < 6) : i = 0 ∨ i = 1 ∨ i = 2 ∨ i = 3 ∨ i = 4 ∨ i = 5 := by omega
theorem m_cod : f_Meets 1 kJ0_coder_7d493 S_cod := by
  intro G As M R hsp X hX hW
  match As, hsp with
  | [.ref r], ⟨i, hr, hi, hsp⟩ =>
    subst hr
    rcases f_six hi with rfl | rfl | rfl | rfl | rfl | rfl <;>
    · refine f_run_ok (stop := fun q => false) hX 20 _ _ _ _ _ ?_
      exact And.intro (fun z => absurd z (by decide)) (fun _ => And.intro rfl hsp)
def S_isl : fSp := fun G As M R => match As with
  | [.ref r] => ∃ i : Nat, r = 2000 + i ∧ i < 6 ∧ R G (some (.int 1)) M
  | _ => False
theorem m_isl : f_Meets 1 kJ0_isLatin1_aae02 S_isl := by
  intro G As M R hsp X hX hW
  match As, hsp with
  | [.ref r], ⟨i, hr, hi, hsp⟩ =>
    subst hr
    rcases f_six hi with rfl | rfl | rfl | rfl | rfl | rfl <;>
    · refine f_run_ok (stop := fun q => false) hX 20 _ _ _ _ _ ?_
      exact And.intro (fun z => absurd z (by decide)) (fun _ => And.intro (fun _ => And.intro rfl hsp) (fun z => absurd rfl z))
def S_sln : fSp := fun G As M R => match As with
  | [.ref r] => ∃ i : Nat, r = 2000 + i ∧ i < 6 ∧ R G (some (.int (nI (f_stx i).length))) M
  | _ => False
theorem m_sln : f_Meets 1 (kJ0_length_8abf5 S_cod) S_sln := by
  intro G As M R hsp X hX hW
  match As, hsp with
  | [.ref r], ⟨i, hr, hi, hsp⟩ =>
    subst hr
    rcases f_six hi with rfl | rfl | rfl | rfl | rfl | rfl
    · refine f_run_ok (stop := fun q => false) hX 20 _ _ _ _ _ ?_
      exact ⟨0, rfl, by omega, hsp⟩
    · refine f_run_ok (stop := fun q => false) hX 20 _ _ _ _ _ ?_
      exact ⟨1, rfl, by omega, hsp⟩
    · refine f_run_ok (stop := fun q => false) hX 20 _ _ _ _ _ ?_
      exact ⟨2, rfl, by omega, hsp⟩
    · refine f_run_ok (stop := fun q => false) hX 20 _ _ _ _ _ ?_
      exact ⟨3, rfl, by omega, hsp⟩
    · refine f_run_ok (stop := fun q => false) hX 20 _ _ _ _ _ ?_
      exact ⟨4, rfl, by omega, hsp⟩
    · refine f_run_ok (stop := fun q => false) hX 20 _ _ _ _ _ ?_
      exact ⟨5, rfl, by omega, hsp⟩
def S_cix : fSp := fun G As M R => match As with
  | [.int z, .int w] => ∃ k n : Nat, z = nI k ∧ w = nI n ∧ k < n ∧ n < 1000 ∧ R G none M
  | _ => False
def S_ch1 : fSp := fun G As M R => match As with
  | [.ref r, .int z] => ∃ i k : Nat, r = 2100 + i ∧ i < 6 ∧ z = nI k ∧ k < (f_stx i).length ∧ R G (some (.int ((f_stx i).getD k 0))) M
  | _ => False
theorem f_stx_and : ∀ i, i < 6 → ∀ k, k < 6 → k < (f_stx i).length → (f_stx i).getD k 0 &&& 255 = (f_stx i).getD k 0 := by decide +kernel
theorem f_stx_len : ∀ i, i < 6 → (f_stx i).length ≤ 6 ∧ f_slen.getD i 0 = (f_stx i).length := by decide +kernel
def S_cha : fSp := fun G As M R => match As with
  | [.ref r, .int z] => ∃ i k : Nat, r = 2000 + i ∧ i < 6 ∧ z = nI k ∧ k < (f_stx i).length ∧ R G (some (.int ((f_stx i).getD k 0))) M
  | _ => False
def f_YS (M : fMem) (T : Nat → Nat) (n p a : Nat) (w : Bool) (o : Nat) : Prop := M.1 100 4 = nI a ∧ a < 5 ∧ M.1 100 5 = nI p ∧ p ≤ n ∧ M.1 100 6 = nI n ∧ n ≤ 100 ∧ M.1 100 7 = f_b w ∧ M.1 100 8 = nI o ∧ o ≤ 6 ∧ ∀ i, i < n → M.1 101 (91 + i) = nI (T i) ∧ T i < 128
theorem f_YS.lt {M : fMem} {T : Nat → Nat} {n p a o : Nat} {w : Bool} (h : f_YS M T n p a w o) : ∀ i, i < n → T i < 128 := fun i hi => (h.2.2.2.2.2.2.2.2.2 i hi).2
theorem f_YS.sp {M : fMem} {T : Nat → Nat} {n p a o q : Nat} {w : Bool} (h : f_YS M T n p a w o) (hq : q ≤ n) : f_YS (f_up M.1 100 5 (nI q), M.2) T n q a w o := by
  obtain ⟨a1, a2, a3, a4, a5, a6, a7, a8, a9, a10⟩ := h
  exact ⟨a1, a2, rfl, hq, a5, a6, a7, a8, a9, a10⟩
theorem f_YS.wr {M : fMem} {T : Nat → Nat} {n p a o : Nat} {w : Bool} (h : f_YS M T n p a w o) (v : Bool) : f_YS (f_up M.1 100 7 (f_b v), M.2) T n p a v o := by
  obtain ⟨a1, a2, a3, a4, a5, a6, a7, a8, a9, a10⟩ := h
  exact ⟨a1, a2, a3, a4, a5, a6, rfl, a8, a9, a10⟩
theorem f_YS.op {M : fMem} {T : Nat → Nat} {n p a o q : Nat} {w : Bool} (h : f_YS M T n p a w o) (hq : q ≤ 6) : f_YS (f_up M.1 100 8 (nI q), M.2) T n p a w q := by
  obtain ⟨a1, a2, a3, a4, a5, a6, a7, a8, a9, a10⟩ := h
  exact ⟨a1, a2, a3, a4, a5, a6, a7, rfl, hq, a10⟩
def S_he : fSp := fun G As M R => match As with
  | [.ref 100] => ∃ (T : Nat → Nat) (n p a : Nat) (w : Bool) (o : Nat), G = f_GM ∧ f_YS M T n p a w o ∧ R G (some (.int (f_sg T n p))) M
  | _ => False
set_option maxRecDepth 20000 in
theorem m_he : f_Meets 1 kX12_here S_he := by
  intro G As M R hsp X hX hW
  match As, hsp with
  | [.ref 100], ⟨T, n, p, a, w, o, hG, hY, hsp⟩ =>
    subst hG
    obtain ⟨a1, a2, a3, a4, a5, a6, a7, a8, a9, a10⟩ := hY
    unfold f_sg at hsp
    refine f_run_ok (stop := fun q => false) hX 20 _ _ _ _ _ ?_
    refine And.intro (fun h => ?_) (fun h => ?_)
    · have h : M.1 100 6 ≤ M.1 100 5 := h
      rw [a3, a5] at h
      have := (nI_leI (by omega) (by omega)).mp h
      rw [if_neg (by omega)] at hsp
      exact hsp
    · have h : ¬ M.1 100 6 ≤ M.1 100 5 := h
      rw [a3, a5] at h
      have hp : p < n := Nat.lt_of_not_le (fun z => h (nI_le z (by omega)))
      rw [if_pos hp] at hsp
      obtain ⟨i1, i2⟩ := f_ix (z := 91 + M.1 100 5) (k := 91 + p) (n := 906) (by rw [a3]; exact nI_add 91 p) (by omega) (by omega)
      exact And.intro i1 (f_fin hsp (by rw [i2]; exact congrArg (fun z => some (Value.int z)) (a10 p hp).1.symm) rfl)
theorem f_b01m (v : Bool) : f_b v = 0 ∨ f_b v = 1 := by cases v <;> decide
def S_mst : fSp := fun G As M R => match As with
  | [.ref 100, .int z] => ∃ (T : Nat → Nat) (n p a : Nat) (w : Bool) (o c : Nat), G = f_GM ∧ z = nI c ∧ c < 1000 ∧ f_YS M T n p a w o ∧ (∀ M', f_em [1005, 1007] M M' → f_YS M' T n (if w = false ∧ f_is T n p c = true then p + 1 else p) a (w || !f_is T n p c) o → R G none M')
  | _ => False
set_option maxRecDepth 20000 in
theorem m_mst : f_Meets 2 (kX12_must S_he) S_mst := by
  intro G As M R hsp X hX hW
  match As, hsp with
  | [.ref 100, .int z], ⟨T, n, p, a, w, o, c, hG, hz, hc, hY, hsp⟩ =>
    subst hG; subst hz
    have h7 : M.1 100 7 = f_b w := hY.2.2.2.2.2.2.1
    have h5 : M.1 100 5 = nI p := hY.2.2.1
    have h4 := hY.2.2.2.1
    have fin : ∀ v : Bool, v = (w || !f_is T n p c) → X f_GM 21 [some (.ref 100), some (.int (nI c))] [.int (f_b v), .ref 100] M := by
      intro v hv
      have he : f_em [1005, 1007] M (f_up M.1 100 7 (f_b v), M.2) := f_em.rf.uf (k := 7) (by decide)
      have hY1 := hY.wr v
      refine f_run_ok (stop := fun q => false) hX 30 _ _ _ _ _ ?_
      refine And.intro (f_b01m v) (And.intro (fun h => ?_) (fun h => ?_))
      · have hv0 : v = false := f_b0.mp h
        have hw : w = false ∧ f_is T n p c = true := by
          rw [hv0] at hv
          cases w <;> cases hq : f_is T n p c <;> simp [hq] at hv ⊢
        rw [if_pos hw] at hsp
        have hlt := f_is_lt hw.2
        have q := hsp _ (he.uf (k := 5) (v := nI (p + 1)) (by decide)) (by rw [← hv]; exact hY1.sp (by omega))
        rw [nI_succ, ← h5] at q
        exact q
      · have hv0 : v = true := f_b_nt h
        have hw : ¬ (w = false ∧ f_is T n p c = true) := by
          rw [hv0] at hv
          rintro ⟨e1, e2⟩
          rw [e1, e2] at hv
          cases hv
        rw [if_neg hw] at hsp
        have q := hsp _ (he.uf (k := 5) (v := nI p) (by decide)) (by rw [← hv]; exact hY1.sp h4)
        have e0 : nI p = M.1 100 5 + 0 := by rw [h5, f_add0]
        rw [e0] at q
        exact q
    refine f_run_ok (stop := fun q => Nat.beq q 21) hX 30 _ _ _ _ _ ?_
    refine And.intro (fun h => ?_) (fun h => ?_)
    · have h : M.1 100 7 = 0 := h
      rw [h7] at h
      have hw := f_b0.mp h
      refine ⟨T, n, p, a, w, o, rfl, hY, ?_⟩
      refine And.intro (fun h2 => ?_) (fun h2 => ?_)
      · have h2 := (f_sg_eq hY.lt hc).mp h2
        exact fin false (by rw [hw, h2]; rfl)
      · have h2 : ¬ f_is T n p c = true := fun e => h2 ((f_sg_eq hY.lt hc).mpr e)
        exact fin true (by rw [hw, Bool.eq_false_iff.mpr h2]; rfl)
    · have h : ¬ M.1 100 7 = 0 := h
      rw [h7] at h
      have hw := f_b_nt h
      exact fin true (by rw [hw]; rfl)
