def S_look : fSp := fun G As M R => match As with
  | [.ref 37, .int a, .int b, .int c, .int d] => G = f_GX ∧ R G none (f_up (f_up (f_up (f_up M.1 37 1 a) 37 2 b) 37 3 c) 37 4 d, M.2)
  | _ => False
theorem m_look : f_Meets 5 kX3_look S_look := by
  intro G As M R hsp X hX hW
  match As, hsp with
  | [.ref 37, .int a, .int b, .int c, .int d], ⟨hG, hsp⟩ =>
    subst hG
    exact f_run_ok (stop := fun _ => false) hX 30 _ _ _ _ _ hsp
/-! the open pieces, as the chooser holds them -/
abbrev fOp : Type := Nat × Nat × Nat
def f_OP (M : fMem) (ops : List fOp) : Prop := M.1 33 2 = nI ops.length ∧ ops.length ≤ 17 ∧ ∀ i o, ops[i]? = some o → M.1 34 i = nI o.1 ∧ M.1 35 i = nI o.2.1 ∧ M.1 36 i = nI o.2.2 ∧ o.1 < o.2.1 ∧ o.2.1 ≤ 17 ∧ o.2.2 < 2 ^ 17
def f_og (ops : List fOp) (i : Nat) : fOp := ops.getD i (0, 0, 0)
def f_ol (ops : List fOp) (i : Nat) : Nat := (f_og ops i).2.1 - (f_og ops i).1
theorem f_OP.get {M : fMem} {ops : List fOp} (h : f_OP M ops) {i : Nat} (hi : i < ops.length) : M.1 34 i = nI (f_og ops i).1 ∧ M.1 35 i = nI (f_og ops i).2.1 ∧ M.1 36 i = nI (f_og ops i).2.2 ∧ (f_og ops i).1 < (f_og ops i).2.1 ∧ (f_og ops i).2.1 ≤ 17 ∧ (f_og ops i).2.2 < 2 ^ 17 := by
  have e : ops[i]? = some (f_og ops i) := by unfold f_og; rw [List.getD_eq_getElem?_getD, List.getElem?_eq_getElem hi]; rfl
  exact h.2.2 i _ e
def S_olen : fSp := fun G As M R => match As with
  | [.ref 33, .int z] => ∃ (ops : List fOp) (i : Nat), G = f_GX ∧ f_OP M ops ∧ z = nI i ∧ i < ops.length ∧ R G (some (.int (nI (f_ol ops i)))) M
  | _ => False
theorem m_olen : f_Meets 2 (kX1_openLength S_at) S_olen := by
  intro G As M R hsp X hX hW
  match As, hsp with
  | [.ref 33, .int z], ⟨ops, i, hG, hO, hz, hi, hsp⟩ =>
    subst hG; subst hz
    obtain ⟨a1, a2, a3, a4, a5, a6⟩ := hO.get hi
    have h17 := hO.2.1
    refine f_run_ok (stop := fun _ => false) hX 30 _ _ _ _ _ ?_
    refine f_fin hsp ?_ rfl
    have e1 : f_at (17, M.1 35) (nI i) = nI (f_og ops i).2.1 := by
      rw [f_at_in (t := (17, M.1 35)) (j := i) (by show i < 17; omega) (by show 17 < _; decide)]; exact a2
    have e2 : f_at (17, M.1 34) (nI i) = nI (f_og ops i).1 := by
      rw [f_at_in (t := (17, M.1 34)) (j := i) (by show i < 17; omega) (by show 17 < _; decide)]; exact a1
    show _ = some (Value.int (f_at (17, M.1 35) (nI i) - f_at (17, M.1 34) (nI i)))
    rw [e1, e2, pk_sub (by omega)]
    rfl
def f_lng (ops : List fOp) : Nat → Nat
  | 0 => 0
  | n + 1 => if f_ol ops (f_lng ops n) < f_ol ops (n + 1) then n + 1 else f_lng ops n
theorem f_lng_le (ops : List fOp) : ∀ n, f_lng ops n ≤ n := by
  intro n
  induction n with
  | zero => exact Nat.le_refl _
  | succ n ih =>
    unfold f_lng
    split <;> omega
theorem f_ol_lt (ops : List fOp) {M : fMem} (h : f_OP M ops) {i : Nat} (hi : i < ops.length) : f_ol ops i ≤ 17 := by
  have := h.get hi
  unfold f_ol
  omega
def S_lng : fSp := fun G As M R => match As with
  | [.ref 33] => ∃ ops : List fOp, G = f_GX ∧ f_OP M ops ∧ 0 < ops.length ∧ R G (some (.int (nI (f_lng ops (ops.length - 1))))) M
  | _ => False
theorem m_lng : f_Meets 3 (kX1_longestOpen S_olen) S_lng := by
  intro G As M R hsp X hX hW
  match As, hsp with
  | [.ref 33], ⟨ops, hG, hO, h0, hsp⟩ =>
    subst hG
    have h17 := hO.2.1
    have loop : ∀ n i, i + n = ops.length - 1 → X f_GX 4 [some (.ref 33), some (.int (nI (f_lng ops i))), some (.int (nI (i + 1)))] [] M := by
      intro n
      induction n with
      | zero =>
        intro i hi
        refine f_run_ok (stop := fun q => Nat.beq q 4) hX 30 _ _ _ _ _ ?_
        refine And.intro (fun h => ?_) (fun h => ?_)
        · exact f_fin hsp (by rw [show i = ops.length - 1 by omega]) rfl
        · refine absurd ?_ h
          show M.1 33 2 ≤ nI (i + 1)
          rw [hO.1]
          exact nI_le (by omega) (by omega)
      | succ n ih =>
        intro i hi
        have hle := f_lng_le ops i
        refine f_run_ok (stop := fun q => Nat.beq q 4) hX 30 _ _ _ _ _ ?_
        refine And.intro (fun h => ?_) (fun h => ?_)
        · have h : M.1 33 2 ≤ nI (i + 1) := h
          rw [hO.1] at h
          have := (nI_leI (by omega) (by omega)).mp h
          omega
        · refine ⟨ops, i + 1, rfl, hO, rfl, by omega, ?_⟩
          refine ⟨ops, f_lng ops i, rfl, hO, rfl, by omega, ?_⟩
          have l1 := f_ol_lt ops hO (i := i + 1) (by omega)
          have l2 := f_ol_lt ops hO (i := f_lng ops i) (by omega)
          have nx := ih (i + 1) (by omega)
          rw [nI_succ (i + 1)] at nx
          refine And.intro (fun h2 => ?_) (fun h2 => ?_)
          · have h2 := (nI_leI (by omega) (by omega)).mp h2
            have e : f_lng ops (i + 1) = f_lng ops i := by unfold f_lng; rw [if_neg (by omega)]; cases i <;> rfl
            rw [e] at nx
            exact nx
          · have h2 : ¬ f_ol ops (i + 1) ≤ f_ol ops (f_lng ops i) := fun z => h2 ((nI_leI (by omega) (by omega)).mpr z)
            have e : f_lng ops (i + 1) = i + 1 := by
              show (if f_ol ops (f_lng ops i) < f_ol ops (i + 1) then i + 1 else f_lng ops i) = _
              rw [if_pos (by omega)]
            rw [e] at nx
            exact nx
    refine f_run_ok (stop := fun q => Nat.beq q 4) hX 30 _ _ _ _ _ ?_
    exact loop (ops.length - 1) 0 (by omega)
def f_sht (ops : List fOp) (v : Nat) : Nat → Option Nat
  | 0 => none
  | n + 1 => match f_sht ops v n with
    | none => if v < f_ol ops n then some n else none
    | some s => if v < f_ol ops n ∧ f_ol ops n < f_ol ops s then some n else some s
def f_opI (o : Option Nat) : Int32 := match o with
  | none => -1
  | some n => nI n
theorem f_sht_lt (ops : List fOp) (v : Nat) : ∀ n s, f_sht ops v n = some s → s < n := by
  intro n
  induction n with
  | zero => intro s h; cases h
  | succ n ih =>
    intro s h
    unfold f_sht at h
    cases hs : f_sht ops v n with
    | none =>
      rw [hs] at h
      change (if v < f_ol ops n then some n else none) = some s at h
      split at h
      · cases h; omega
      · cases h
    | some s0 =>
      rw [hs] at h
      have := ih s0 hs
      change (if v < f_ol ops n ∧ f_ol ops n < f_ol ops s0 then some n else some s0) = some s at h
      split at h
      · cases h; omega
      · cases h; omega
def S_sht : fSp := fun G As M R => match As with
  | [.ref 33, .int z] => ∃ (ops : List fOp) (v : Nat), G = f_GX ∧ f_OP M ops ∧ z = nI v ∧ v < 100 ∧ R G (some (.int (f_opI (f_sht ops v ops.length)))) M
  | _ => False
theorem m_sht : f_Meets 4 (kX1_shortestOpen S_olen) S_sht := by
  intro G As M R hsp X hX hW
  match As, hsp with
  | [.ref 33, .int z], ⟨ops, v, hG, hO, hz, hv, hsp⟩ =>
    subst hG; subst hz
    have h17 := hO.2.1
    have loop : ∀ n i, i + n = ops.length → X f_GX 4 [some (.ref 33), some (.int (nI v)), some (.int (f_opI (f_sht ops v i))), some (.int (nI i))] [] M := by
      intro n
      induction n with
      | zero =>
        intro i hi
        refine f_run_ok (stop := fun q => Nat.beq q 4) hX 30 _ _ _ _ _ ?_
        refine And.intro (fun h => ?_) (fun h => ?_)
        · exact f_fin hsp (by rw [show i = ops.length by omega]) rfl
        · refine absurd ?_ h
          show M.1 33 2 ≤ nI i
          rw [hO.1]
          exact nI_le (by omega) (by omega)
      | succ n ih =>
        intro i hi
        refine f_run_ok (stop := fun q => Nat.beq q 4) hX 30 _ _ _ _ _ ?_
        have nx := ih (i + 1) (by omega)
        rw [nI_succ i] at nx
        have l1 := f_ol_lt ops hO (i := i) (by omega)
        have eq : f_sht ops v (i + 1) = (match f_sht ops v i with
          | none => if v < f_ol ops i then some i else none
          | some s => if v < f_ol ops i ∧ f_ol ops i < f_ol ops s then some i else some s) := rfl
        refine And.intro (fun h => ?_) (fun h => ?_)
        · have h : M.1 33 2 ≤ nI i := h
          rw [hO.1] at h
          have := (nI_leI (by omega) (by omega)).mp h
          omega
        · refine ⟨ops, i, rfl, hO, rfl, by omega, ?_⟩
          refine And.intro (fun h2 => ?_) (fun h2 => ?_)
          · have h2 := (nI_leI (by omega) (by omega)).mp h2
            have e : f_sht ops v (i + 1) = f_sht ops v i := by
              rw [eq]
              cases hs : f_sht ops v i with
              | none => show (if v < f_ol ops i then some i else none) = none; rw [if_neg (by omega)]
              | some s => show (if v < f_ol ops i ∧ f_ol ops i < f_ol ops s then some i else some s) = some s; rw [if_neg (by omega)]
            rw [e] at nx
            exact nx
          · have h2 : ¬ f_ol ops i ≤ v := fun z => h2 ((nI_leI (by omega) (by omega)).mpr z)
            cases hs : f_sht ops v i with
            | none =>
              have e : f_sht ops v (i + 1) = some i := by
                rw [eq, hs]
                show (if v < f_ol ops i then some i else none) = _
                rw [if_pos (by omega)]
              rw [e] at nx
              refine And.intro (fun h3 => ?_) (fun h3 => absurd (show (-1 : Int32) < 0 by decide) h3)
              exact nx
            | some s =>
              have hs2 := f_sht_lt ops v i s hs
              have l2 := f_ol_lt ops hO (i := s) (by omega)
              refine And.intro (fun h3 => absurd h3 (nI_pos (by omega))) (fun h3 => ?_)
              refine ⟨ops, i, rfl, hO, rfl, by omega, ?_⟩
              refine ⟨ops, s, rfl, hO, rfl, by omega, ?_⟩
              refine And.intro (fun h4 => ?_) (fun h4 => ?_)
              · have h4 := (nI_leI (by omega) (by omega)).mp h4
                have e : f_sht ops v (i + 1) = some s := by
                  rw [eq, hs]
                  show (if v < f_ol ops i ∧ f_ol ops i < f_ol ops s then some i else some s) = _
                  rw [if_neg (by omega)]
                rw [e] at nx
                exact nx
              · have h4 : ¬ f_ol ops s ≤ f_ol ops i := fun z => h4 ((nI_leI (by omega) (by omega)).mpr z)
                have e : f_sht ops v (i + 1) = some i := by
                  rw [eq, hs]
                  show (if v < f_ol ops i ∧ f_ol ops i < f_ol ops s then some i else some s) = _
                  rw [if_pos (by omega)]
                rw [e] at nx
                exact nx
    refine f_run_ok (stop := fun q => Nat.beq q 4) hX 30 _ _ _ _ _ ?_
    exact loop ops.length 0 (by omega)
