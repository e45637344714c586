/-! ===== Reader of the class: heads ===== -/
def f_wrd (T : Nat → Nat) (n : Nat) : List Nat → Nat → Bool × Nat
  | [], p => (true, p)
  | c :: w, p => if f_is T n p c = true then f_wrd T n w (p + 1) else (false, p)
/-- a word, a blunk, a number: whether it is there, where it ends, the word's first letter, the number -/
def f_hdw (T : Nat → Nat) (n c : Nat) (w : List Nat) (p : Nat) : Bool × Nat × Nat × Nat := if (f_wrd T n w p).1 = true then (match f_num T n (f_wrd T n w p).2 with
  | none => (false, (f_wrd T n w p).2, c, 0)
  | some (v, q) => (true, q, c, v)) else (false, (f_wrd T n w p).2, c, 0)
def f_head (T : Nat → Nat) (n p : Nat) : Bool × Nat × Nat × Nat := if f_is T n p 108 = true then f_hdw T n 108 [108, 111, 110, 103, 32] p else if f_is T n p 99 = true then f_hdw T n 99 [99, 117, 116, 115, 32] p else if f_is T n p 104 = true then f_hdw T n 104 [104, 97, 114, 100, 32] p else if f_is T n p 112 = true then f_hdw T n 112 [112, 114, 105, 99, 101, 32] p else (false, p, 0, 0)
theorem f_is_ne {T : Nat → Nat} {n p c d : Nat} (h : f_is T n p c = true) (hd : c ≠ d) : f_is T n p d = false := by
  obtain ⟨h1, h2⟩ := of_decide_eq_true h
  unfold f_is
  exact decide_eq_false (fun z => hd (by omega))
def S_rh : fSp := fun G As M R => match As with
  | [.ref 27] => ∃ (T : Nat → Nat) (n p : Nat), G = f_GX ∧ f_RD M T n p ∧ (∀ M', f_ex [27] [] M M' → f_RD M' T n (f_head T n p).2.1 → ((f_head T n p).1 = true → M'.1 27 3 = nI (f_head T n p).2.2.1 ∧ M'.1 27 4 = nI (f_head T n p).2.2.2) → R G (some (.int (f_b (f_head T n p).1))) M')
  | _ => False
theorem f_RD.wd {M : fMem} {T : Nat → Nat} {n p : Nat} (h : f_RD M T n p) {k : Nat} (hk : k ≠ 2) (v : Int32) : f_RD (f_up M.1 27 k v, M.2) T n p := by
  refine ⟨?_, h.2.1, h.2.2.1, h.2.2.2.1, h.2.2.2.2⟩
  show (if 27 = 27 then (if 2 = k then v else M.1 27 2) else M.1 27 2) = _
  rw [if_pos rfl, if_neg (by omega)]
  exact h.1
set_option maxRecDepth 20000 in
theorem m_rh : f_Meets 2 (kX5_readsHead S_sg S_tks S_nmb) S_rh := by
  intro G As M R hsp X hX hW
  match As, hsp with
  | [.ref 27], ⟨T, n, p, hG, hD, hsp⟩ =>
    subst hG
    have eqv : ∀ c, c < 1000 → (f_sg T n p = nI c ↔ f_is T n p c = true) := fun c hc => f_sg_eq hD.lt hc
    have tail : ∀ (c : Nat) (w : List Nat) (M1 : fMem) (q : Nat), f_head T n p = f_hdw T n c w p → f_wrd T n w p = (true, q) → f_RD M1 T n q → f_ex [27] [] M M1 → M1.1 27 3 = nI c → X f_GX 262 [some (.ref 27), some (.int 1)] [] M1 := by
      intro c w M1 q hh hw hD1 he h3
      refine f_run_ok (stop := fun q => false) hX 20 _ _ _ _ _ ?_
      refine ⟨T, n, q, rfl, hD1, fun v q2 hv => ?_, fun hv => ?_⟩
      · obtain ⟨v1, v2, v3⟩ := f_num_ok hv
        have hr : f_head T n p = (true, q2, c, v) := by rw [hh]; simp only [f_hdw, hw, hv, if_true]
        rw [hr] at hsp
        refine And.intro (fun h => ?_) (fun h => ?_)
        · exact absurd ((nI_ltI (b := 0) (by omega) (by omega)).mp h) (by omega)
        · exact And.intro rfl (hsp _ ((he.up (by decide)).up (c := 27) (by decide)) ((hD1.up v3).wd (by decide) _) (fun _ => ⟨h3, rfl⟩))
      · have hr : f_head T n p = (false, q, c, 0) := by rw [hh]; simp only [f_hdw, hw, hv, if_true]
        rw [hr] at hsp
        refine And.intro (fun h => ?_) (fun h => absurd (show (-1 : Int32) < 0 by decide) h)
        exact And.intro rfl (hsp _ (he.up (by decide)) (hD1.wd (by decide) _) (fun z => absurd z Bool.false_ne_true))
    refine f_run_ok (stop := fun q => Nat.beq q 56 || Nat.beq q 101 || Nat.beq q 146 || Nat.beq q 191) hX 30 _ _ _ _ _ ?_
    refine ⟨T, n, p, rfl, hD, ?_⟩
    have hD0 := hD.wd (k := 3) (by decide) (f_sg T n p)
    refine And.intro (fun h => ?_) (fun g1 => And.intro (fun h => ?_) (fun g2 => And.intro (fun h => ?_) (fun g3 => And.intro (fun h => ?_) (fun g4 => ?_))))
    · have h := (eqv 99 (by omega)).mp h
      have hh : f_head T n p = f_hdw T n 99 [99, 117, 116, 115, 32] p := by unfold f_head; rw [if_neg (by rw [f_is_ne h (d := 108) (by decide)]; decide)]; rw [if_pos h]
      have w3 : f_sg T n p = nI 99 := (eqv 99 (by omega)).mpr h
      refine f_run_ok (stop := fun q => Nat.beq q 262) hX 60 _ _ _ _ _ ?_
      refine ⟨T, n, p, 99, rfl, rfl, by omega, hD0, fun h0 => ?_, fun h0 => ?_⟩
      rotate_left
      · have hw : f_wrd T n [99, 117, 116, 115, 32] p = (false, p) := by simp only [f_wrd, h0, if_true, Bool.false_eq_true, if_false]
        have hr : f_head T n p = (false, p, 99, 0) := by rw [hh]; simp only [f_hdw, hw, Bool.false_eq_true, if_false]
        rw [hr] at hsp
        have y := hsp _ (f_ex.rf.up (cs := [27]) (c := 27) (by decide)) hD0 (fun z => absurd z Bool.false_ne_true)
        refine And.intro (fun _ => ?_) (fun z => absurd rfl z)
        refine And.intro (fun _ => ?_) (fun z => absurd rfl z)
        exact And.intro rfl y
      refine And.intro (fun z => absurd z (by decide)) (fun _ => ?_)
      have hD1 := hD0.up (f_is_lt h0)
      refine ⟨T, n, p + 1, 117, rfl, rfl, by omega, hD1, fun h1 => ?_, fun h1 => ?_⟩
      rotate_left
      · have hw : f_wrd T n [99, 117, 116, 115, 32] p = (false, p + 1) := by simp only [f_wrd, h0, h1, if_true, Bool.false_eq_true, if_false]
        have hr : f_head T n p = (false, p + 1, 99, 0) := by rw [hh]; simp only [f_hdw, hw, Bool.false_eq_true, if_false]
        rw [hr] at hsp
        have y := hsp _ ((f_ex.rf.up (cs := [27]) (c := 27) (by decide)).up (c := 27) (by decide)) hD1 (fun z => absurd z Bool.false_ne_true)
        refine And.intro (fun _ => ?_) (fun z => absurd rfl z)
        refine And.intro (fun _ => ?_) (fun z => absurd rfl z)
        exact And.intro rfl y
      refine And.intro (fun z => absurd z (by decide)) (fun _ => ?_)
      have hD2 := hD1.up (f_is_lt h1)
      refine ⟨T, n, p + 1 + 1, 116, rfl, rfl, by omega, hD2, fun h2 => ?_, fun h2 => ?_⟩
      rotate_left
      · have hw : f_wrd T n [99, 117, 116, 115, 32] p = (false, p + 1 + 1) := by simp only [f_wrd, h0, h1, h2, if_true, Bool.false_eq_true, if_false]
        have hr : f_head T n p = (false, p + 1 + 1, 99, 0) := by rw [hh]; simp only [f_hdw, hw, Bool.false_eq_true, if_false]
        rw [hr] at hsp
        have y := hsp _ (((f_ex.rf.up (cs := [27]) (c := 27) (by decide)).up (c := 27) (by decide)).up (c := 27) (by decide)) hD2 (fun z => absurd z Bool.false_ne_true)
        refine And.intro (fun _ => ?_) (fun z => absurd rfl z)
        refine And.intro (fun _ => ?_) (fun z => absurd rfl z)
        exact And.intro rfl y
      refine And.intro (fun z => absurd z (by decide)) (fun _ => ?_)
      have hD3 := hD2.up (f_is_lt h2)
      refine ⟨T, n, p + 1 + 1 + 1, 115, rfl, rfl, by omega, hD3, fun h3 => ?_, fun h3 => ?_⟩
      rotate_left
      · have hw : f_wrd T n [99, 117, 116, 115, 32] p = (false, p + 1 + 1 + 1) := by simp only [f_wrd, h0, h1, h2, h3, if_true, Bool.false_eq_true, if_false]
        have hr : f_head T n p = (false, p + 1 + 1 + 1, 99, 0) := by rw [hh]; simp only [f_hdw, hw, Bool.false_eq_true, if_false]
        rw [hr] at hsp
        have y := hsp _ ((((f_ex.rf.up (cs := [27]) (c := 27) (by decide)).up (c := 27) (by decide)).up (c := 27) (by decide)).up (c := 27) (by decide)) hD3 (fun z => absurd z Bool.false_ne_true)
        refine And.intro (fun _ => ?_) (fun z => absurd rfl z)
        refine And.intro (fun _ => ?_) (fun z => absurd rfl z)
        exact And.intro rfl y
      refine And.intro (fun z => absurd z (by decide)) (fun _ => ?_)
      refine And.intro (fun z => absurd z (by decide)) (fun _ => ?_)
      have hD4 := hD3.up (f_is_lt h3)
      refine ⟨T, n, p + 1 + 1 + 1 + 1, 32, rfl, rfl, by omega, hD4, fun h4 => ?_, fun h4 => ?_⟩
      rotate_left
      · have hw : f_wrd T n [99, 117, 116, 115, 32] p = (false, p + 1 + 1 + 1 + 1) := by simp only [f_wrd, h0, h1, h2, h3, h4, if_true, Bool.false_eq_true, if_false]
        have hr : f_head T n p = (false, p + 1 + 1 + 1 + 1, 99, 0) := by rw [hh]; simp only [f_hdw, hw, Bool.false_eq_true, if_false]
        rw [hr] at hsp
        have y := hsp _ (((((f_ex.rf.up (cs := [27]) (c := 27) (by decide)).up (c := 27) (by decide)).up (c := 27) (by decide)).up (c := 27) (by decide)).up (c := 27) (by decide)) hD4 (fun z => absurd z Bool.false_ne_true)
        refine And.intro (fun _ => ?_) (fun z => absurd rfl z)
        exact And.intro rfl y
      refine And.intro (fun z => absurd z (by decide)) (fun _ => ?_)
      exact tail 99 [99, 117, 116, 115, 32] _ (p + 1 + 1 + 1 + 1 + 1) hh (by simp only [f_wrd, h0, h1, h2, h3, h4, if_true]) (hD4.up (f_is_lt h4)) ((((((f_ex.rf.up (cs := [27]) (c := 27) (by decide)).up (c := 27) (by decide)).up (c := 27) (by decide)).up (c := 27) (by decide)).up (c := 27) (by decide)).up (c := 27) (by decide)) w3
    · have h := (eqv 104 (by omega)).mp h
      have hh : f_head T n p = f_hdw T n 104 [104, 97, 114, 100, 32] p := by unfold f_head; rw [if_neg (by rw [f_is_ne h (d := 108) (by decide)]; decide)]; rw [if_neg (by rw [f_is_ne h (d := 99) (by decide)]; decide)]; rw [if_pos h]
      have w3 : f_sg T n p = nI 104 := (eqv 104 (by omega)).mpr h
      refine f_run_ok (stop := fun q => Nat.beq q 262) hX 60 _ _ _ _ _ ?_
      refine ⟨T, n, p, 104, rfl, rfl, by omega, hD0, fun h0 => ?_, fun h0 => ?_⟩
      rotate_left
      · have hw : f_wrd T n [104, 97, 114, 100, 32] p = (false, p) := by simp only [f_wrd, h0, if_true, Bool.false_eq_true, if_false]
        have hr : f_head T n p = (false, p, 104, 0) := by rw [hh]; simp only [f_hdw, hw, Bool.false_eq_true, if_false]
        rw [hr] at hsp
        have y := hsp _ (f_ex.rf.up (cs := [27]) (c := 27) (by decide)) hD0 (fun z => absurd z Bool.false_ne_true)
        refine And.intro (fun _ => ?_) (fun z => absurd rfl z)
        refine And.intro (fun _ => ?_) (fun z => absurd rfl z)
        exact And.intro rfl y
      refine And.intro (fun z => absurd z (by decide)) (fun _ => ?_)
      have hD1 := hD0.up (f_is_lt h0)
      refine ⟨T, n, p + 1, 97, rfl, rfl, by omega, hD1, fun h1 => ?_, fun h1 => ?_⟩
      rotate_left
      · have hw : f_wrd T n [104, 97, 114, 100, 32] p = (false, p + 1) := by simp only [f_wrd, h0, h1, if_true, Bool.false_eq_true, if_false]
        have hr : f_head T n p = (false, p + 1, 104, 0) := by rw [hh]; simp only [f_hdw, hw, Bool.false_eq_true, if_false]
        rw [hr] at hsp
        have y := hsp _ ((f_ex.rf.up (cs := [27]) (c := 27) (by decide)).up (c := 27) (by decide)) hD1 (fun z => absurd z Bool.false_ne_true)
        refine And.intro (fun _ => ?_) (fun z => absurd rfl z)
        refine And.intro (fun _ => ?_) (fun z => absurd rfl z)
        exact And.intro rfl y
      refine And.intro (fun z => absurd z (by decide)) (fun _ => ?_)
      have hD2 := hD1.up (f_is_lt h1)
      refine ⟨T, n, p + 1 + 1, 114, rfl, rfl, by omega, hD2, fun h2 => ?_, fun h2 => ?_⟩
      rotate_left
      · have hw : f_wrd T n [104, 97, 114, 100, 32] p = (false, p + 1 + 1) := by simp only [f_wrd, h0, h1, h2, if_true, Bool.false_eq_true, if_false]
        have hr : f_head T n p = (false, p + 1 + 1, 104, 0) := by rw [hh]; simp only [f_hdw, hw, Bool.false_eq_true, if_false]
        rw [hr] at hsp
        have y := hsp _ (((f_ex.rf.up (cs := [27]) (c := 27) (by decide)).up (c := 27) (by decide)).up (c := 27) (by decide)) hD2 (fun z => absurd z Bool.false_ne_true)
        refine And.intro (fun _ => ?_) (fun z => absurd rfl z)
        refine And.intro (fun _ => ?_) (fun z => absurd rfl z)
        exact And.intro rfl y
      refine And.intro (fun z => absurd z (by decide)) (fun _ => ?_)
      have hD3 := hD2.up (f_is_lt h2)
      refine ⟨T, n, p + 1 + 1 + 1, 100, rfl, rfl, by omega, hD3, fun h3 => ?_, fun h3 => ?_⟩
      rotate_left
      · have hw : f_wrd T n [104, 97, 114, 100, 32] p = (false, p + 1 + 1 + 1) := by simp only [f_wrd, h0, h1, h2, h3, if_true, Bool.false_eq_true, if_false]
        have hr : f_head T n p = (false, p + 1 + 1 + 1, 104, 0) := by rw [hh]; simp only [f_hdw, hw, Bool.false_eq_true, if_false]
        rw [hr] at hsp
        have y := hsp _ ((((f_ex.rf.up (cs := [27]) (c := 27) (by decide)).up (c := 27) (by decide)).up (c := 27) (by decide)).up (c := 27) (by decide)) hD3 (fun z => absurd z Bool.false_ne_true)
        refine And.intro (fun _ => ?_) (fun z => absurd rfl z)
        refine And.intro (fun _ => ?_) (fun z => absurd rfl z)
        exact And.intro rfl y
      refine And.intro (fun z => absurd z (by decide)) (fun _ => ?_)
      refine And.intro (fun z => absurd z (by decide)) (fun _ => ?_)
      have hD4 := hD3.up (f_is_lt h3)
      refine ⟨T, n, p + 1 + 1 + 1 + 1, 32, rfl, rfl, by omega, hD4, fun h4 => ?_, fun h4 => ?_⟩
      rotate_left
      · have hw : f_wrd T n [104, 97, 114, 100, 32] p = (false, p + 1 + 1 + 1 + 1) := by simp only [f_wrd, h0, h1, h2, h3, h4, if_true, Bool.false_eq_true, if_false]
        have hr : f_head T n p = (false, p + 1 + 1 + 1 + 1, 104, 0) := by rw [hh]; simp only [f_hdw, hw, Bool.false_eq_true, if_false]
        rw [hr] at hsp
        have y := hsp _ (((((f_ex.rf.up (cs := [27]) (c := 27) (by decide)).up (c := 27) (by decide)).up (c := 27) (by decide)).up (c := 27) (by decide)).up (c := 27) (by decide)) hD4 (fun z => absurd z Bool.false_ne_true)
        refine And.intro (fun _ => ?_) (fun z => absurd rfl z)
        exact And.intro rfl y
      refine And.intro (fun z => absurd z (by decide)) (fun _ => ?_)
      exact tail 104 [104, 97, 114, 100, 32] _ (p + 1 + 1 + 1 + 1 + 1) hh (by simp only [f_wrd, h0, h1, h2, h3, h4, if_true]) (hD4.up (f_is_lt h4)) ((((((f_ex.rf.up (cs := [27]) (c := 27) (by decide)).up (c := 27) (by decide)).up (c := 27) (by decide)).up (c := 27) (by decide)).up (c := 27) (by decide)).up (c := 27) (by decide)) w3
    · have h := (eqv 108 (by omega)).mp h
      have hh : f_head T n p = f_hdw T n 108 [108, 111, 110, 103, 32] p := by unfold f_head; rw [if_pos h]
      have w3 : f_sg T n p = nI 108 := (eqv 108 (by omega)).mpr h
      refine f_run_ok (stop := fun q => Nat.beq q 262) hX 60 _ _ _ _ _ ?_
      refine ⟨T, n, p, 108, rfl, rfl, by omega, hD0, fun h0 => ?_, fun h0 => ?_⟩
      rotate_left
      · have hw : f_wrd T n [108, 111, 110, 103, 32] p = (false, p) := by simp only [f_wrd, h0, if_true, Bool.false_eq_true, if_false]
        have hr : f_head T n p = (false, p, 108, 0) := by rw [hh]; simp only [f_hdw, hw, Bool.false_eq_true, if_false]
        rw [hr] at hsp
        have y := hsp _ (f_ex.rf.up (cs := [27]) (c := 27) (by decide)) hD0 (fun z => absurd z Bool.false_ne_true)
        refine And.intro (fun _ => ?_) (fun z => absurd rfl z)
        refine And.intro (fun _ => ?_) (fun z => absurd rfl z)
        exact And.intro rfl y
      refine And.intro (fun z => absurd z (by decide)) (fun _ => ?_)
      have hD1 := hD0.up (f_is_lt h0)
      refine ⟨T, n, p + 1, 111, rfl, rfl, by omega, hD1, fun h1 => ?_, fun h1 => ?_⟩
      rotate_left
      · have hw : f_wrd T n [108, 111, 110, 103, 32] p = (false, p + 1) := by simp only [f_wrd, h0, h1, if_true, Bool.false_eq_true, if_false]
        have hr : f_head T n p = (false, p + 1, 108, 0) := by rw [hh]; simp only [f_hdw, hw, Bool.false_eq_true, if_false]
        rw [hr] at hsp
        have y := hsp _ ((f_ex.rf.up (cs := [27]) (c := 27) (by decide)).up (c := 27) (by decide)) hD1 (fun z => absurd z Bool.false_ne_true)
        refine And.intro (fun _ => ?_) (fun z => absurd rfl z)
        refine And.intro (fun _ => ?_) (fun z => absurd rfl z)
        exact And.intro rfl y
      refine And.intro (fun z => absurd z (by decide)) (fun _ => ?_)
      have hD2 := hD1.up (f_is_lt h1)
      refine ⟨T, n, p + 1 + 1, 110, rfl, rfl, by omega, hD2, fun h2 => ?_, fun h2 => ?_⟩
      rotate_left
      · have hw : f_wrd T n [108, 111, 110, 103, 32] p = (false, p + 1 + 1) := by simp only [f_wrd, h0, h1, h2, if_true, Bool.false_eq_true, if_false]
        have hr : f_head T n p = (false, p + 1 + 1, 108, 0) := by rw [hh]; simp only [f_hdw, hw, Bool.false_eq_true, if_false]
        rw [hr] at hsp
        have y := hsp _ (((f_ex.rf.up (cs := [27]) (c := 27) (by decide)).up (c := 27) (by decide)).up (c := 27) (by decide)) hD2 (fun z => absurd z Bool.false_ne_true)
        refine And.intro (fun _ => ?_) (fun z => absurd rfl z)
        refine And.intro (fun _ => ?_) (fun z => absurd rfl z)
        exact And.intro rfl y
      refine And.intro (fun z => absurd z (by decide)) (fun _ => ?_)
      have hD3 := hD2.up (f_is_lt h2)
      refine ⟨T, n, p + 1 + 1 + 1, 103, rfl, rfl, by omega, hD3, fun h3 => ?_, fun h3 => ?_⟩
      rotate_left
      · have hw : f_wrd T n [108, 111, 110, 103, 32] p = (false, p + 1 + 1 + 1) := by simp only [f_wrd, h0, h1, h2, h3, if_true, Bool.false_eq_true, if_false]
        have hr : f_head T n p = (false, p + 1 + 1 + 1, 108, 0) := by rw [hh]; simp only [f_hdw, hw, Bool.false_eq_true, if_false]
        rw [hr] at hsp
        have y := hsp _ ((((f_ex.rf.up (cs := [27]) (c := 27) (by decide)).up (c := 27) (by decide)).up (c := 27) (by decide)).up (c := 27) (by decide)) hD3 (fun z => absurd z Bool.false_ne_true)
        refine And.intro (fun _ => ?_) (fun z => absurd rfl z)
        refine And.intro (fun _ => ?_) (fun z => absurd rfl z)
        exact And.intro rfl y
      refine And.intro (fun z => absurd z (by decide)) (fun _ => ?_)
      refine And.intro (fun z => absurd z (by decide)) (fun _ => ?_)
      have hD4 := hD3.up (f_is_lt h3)
      refine ⟨T, n, p + 1 + 1 + 1 + 1, 32, rfl, rfl, by omega, hD4, fun h4 => ?_, fun h4 => ?_⟩
      rotate_left
      · have hw : f_wrd T n [108, 111, 110, 103, 32] p = (false, p + 1 + 1 + 1 + 1) := by simp only [f_wrd, h0, h1, h2, h3, h4, if_true, Bool.false_eq_true, if_false]
        have hr : f_head T n p = (false, p + 1 + 1 + 1 + 1, 108, 0) := by rw [hh]; simp only [f_hdw, hw, Bool.false_eq_true, if_false]
        rw [hr] at hsp
        have y := hsp _ (((((f_ex.rf.up (cs := [27]) (c := 27) (by decide)).up (c := 27) (by decide)).up (c := 27) (by decide)).up (c := 27) (by decide)).up (c := 27) (by decide)) hD4 (fun z => absurd z Bool.false_ne_true)
        refine And.intro (fun _ => ?_) (fun z => absurd rfl z)
        exact And.intro rfl y
      refine And.intro (fun z => absurd z (by decide)) (fun _ => ?_)
      exact tail 108 [108, 111, 110, 103, 32] _ (p + 1 + 1 + 1 + 1 + 1) hh (by simp only [f_wrd, h0, h1, h2, h3, h4, if_true]) (hD4.up (f_is_lt h4)) ((((((f_ex.rf.up (cs := [27]) (c := 27) (by decide)).up (c := 27) (by decide)).up (c := 27) (by decide)).up (c := 27) (by decide)).up (c := 27) (by decide)).up (c := 27) (by decide)) w3
    · have h := (eqv 112 (by omega)).mp h
      have hh : f_head T n p = f_hdw T n 112 [112, 114, 105, 99, 101, 32] p := by unfold f_head; rw [if_neg (by rw [f_is_ne h (d := 108) (by decide)]; decide)]; rw [if_neg (by rw [f_is_ne h (d := 99) (by decide)]; decide)]; rw [if_neg (by rw [f_is_ne h (d := 104) (by decide)]; decide)]; rw [if_pos h]
      have w3 : f_sg T n p = nI 112 := (eqv 112 (by omega)).mpr h
      refine f_run_ok (stop := fun q => Nat.beq q 262) hX 60 _ _ _ _ _ ?_
      refine ⟨T, n, p, 112, rfl, rfl, by omega, hD0, fun h0 => ?_, fun h0 => ?_⟩
      rotate_left
      · have hw : f_wrd T n [112, 114, 105, 99, 101, 32] p = (false, p) := by simp only [f_wrd, h0, if_true, Bool.false_eq_true, if_false]
        have hr : f_head T n p = (false, p, 112, 0) := by rw [hh]; simp only [f_hdw, hw, Bool.false_eq_true, if_false]
        rw [hr] at hsp
        have y := hsp _ (f_ex.rf.up (cs := [27]) (c := 27) (by decide)) hD0 (fun z => absurd z Bool.false_ne_true)
        refine And.intro (fun _ => ?_) (fun z => absurd rfl z)
        refine And.intro (fun _ => ?_) (fun z => absurd rfl z)
        exact And.intro rfl y
      refine And.intro (fun z => absurd z (by decide)) (fun _ => ?_)
      have hD1 := hD0.up (f_is_lt h0)
      refine ⟨T, n, p + 1, 114, rfl, rfl, by omega, hD1, fun h1 => ?_, fun h1 => ?_⟩
      rotate_left
      · have hw : f_wrd T n [112, 114, 105, 99, 101, 32] p = (false, p + 1) := by simp only [f_wrd, h0, h1, if_true, Bool.false_eq_true, if_false]
        have hr : f_head T n p = (false, p + 1, 112, 0) := by rw [hh]; simp only [f_hdw, hw, Bool.false_eq_true, if_false]
        rw [hr] at hsp
        have y := hsp _ ((f_ex.rf.up (cs := [27]) (c := 27) (by decide)).up (c := 27) (by decide)) hD1 (fun z => absurd z Bool.false_ne_true)
        refine And.intro (fun _ => ?_) (fun z => absurd rfl z)
        refine And.intro (fun _ => ?_) (fun z => absurd rfl z)
        exact And.intro rfl y
      refine And.intro (fun z => absurd z (by decide)) (fun _ => ?_)
      have hD2 := hD1.up (f_is_lt h1)
      refine ⟨T, n, p + 1 + 1, 105, rfl, rfl, by omega, hD2, fun h2 => ?_, fun h2 => ?_⟩
      rotate_left
      · have hw : f_wrd T n [112, 114, 105, 99, 101, 32] p = (false, p + 1 + 1) := by simp only [f_wrd, h0, h1, h2, if_true, Bool.false_eq_true, if_false]
        have hr : f_head T n p = (false, p + 1 + 1, 112, 0) := by rw [hh]; simp only [f_hdw, hw, Bool.false_eq_true, if_false]
        rw [hr] at hsp
        have y := hsp _ (((f_ex.rf.up (cs := [27]) (c := 27) (by decide)).up (c := 27) (by decide)).up (c := 27) (by decide)) hD2 (fun z => absurd z Bool.false_ne_true)
        refine And.intro (fun _ => ?_) (fun z => absurd rfl z)
        refine And.intro (fun _ => ?_) (fun z => absurd rfl z)
        exact And.intro rfl y
      refine And.intro (fun z => absurd z (by decide)) (fun _ => ?_)
      have hD3 := hD2.up (f_is_lt h2)
      refine ⟨T, n, p + 1 + 1 + 1, 99, rfl, rfl, by omega, hD3, fun h3 => ?_, fun h3 => ?_⟩
      rotate_left
      · have hw : f_wrd T n [112, 114, 105, 99, 101, 32] p = (false, p + 1 + 1 + 1) := by simp only [f_wrd, h0, h1, h2, h3, if_true, Bool.false_eq_true, if_false]
        have hr : f_head T n p = (false, p + 1 + 1 + 1, 112, 0) := by rw [hh]; simp only [f_hdw, hw, Bool.false_eq_true, if_false]
        rw [hr] at hsp
        have y := hsp _ ((((f_ex.rf.up (cs := [27]) (c := 27) (by decide)).up (c := 27) (by decide)).up (c := 27) (by decide)).up (c := 27) (by decide)) hD3 (fun z => absurd z Bool.false_ne_true)
        refine And.intro (fun _ => ?_) (fun z => absurd rfl z)
        refine And.intro (fun _ => ?_) (fun z => absurd rfl z)
        exact And.intro rfl y
      refine And.intro (fun z => absurd z (by decide)) (fun _ => ?_)
      have hD4 := hD3.up (f_is_lt h3)
      refine ⟨T, n, p + 1 + 1 + 1 + 1, 101, rfl, rfl, by omega, hD4, fun h4 => ?_, fun h4 => ?_⟩
      rotate_left
      · have hw : f_wrd T n [112, 114, 105, 99, 101, 32] p = (false, p + 1 + 1 + 1 + 1) := by simp only [f_wrd, h0, h1, h2, h3, h4, if_true, Bool.false_eq_true, if_false]
        have hr : f_head T n p = (false, p + 1 + 1 + 1 + 1, 112, 0) := by rw [hh]; simp only [f_hdw, hw, Bool.false_eq_true, if_false]
        rw [hr] at hsp
        have y := hsp _ (((((f_ex.rf.up (cs := [27]) (c := 27) (by decide)).up (c := 27) (by decide)).up (c := 27) (by decide)).up (c := 27) (by decide)).up (c := 27) (by decide)) hD4 (fun z => absurd z Bool.false_ne_true)
        refine And.intro (fun _ => ?_) (fun z => absurd rfl z)
        refine And.intro (fun _ => ?_) (fun z => absurd rfl z)
        exact And.intro rfl y
      refine And.intro (fun z => absurd z (by decide)) (fun _ => ?_)
      refine And.intro (fun z => absurd z (by decide)) (fun _ => ?_)
      have hD5 := hD4.up (f_is_lt h4)
      refine ⟨T, n, p + 1 + 1 + 1 + 1 + 1, 32, rfl, rfl, by omega, hD5, fun h5 => ?_, fun h5 => ?_⟩
      rotate_left
      · have hw : f_wrd T n [112, 114, 105, 99, 101, 32] p = (false, p + 1 + 1 + 1 + 1 + 1) := by simp only [f_wrd, h0, h1, h2, h3, h4, h5, if_true, Bool.false_eq_true, if_false]
        have hr : f_head T n p = (false, p + 1 + 1 + 1 + 1 + 1, 112, 0) := by rw [hh]; simp only [f_hdw, hw, Bool.false_eq_true, if_false]
        rw [hr] at hsp
        have y := hsp _ ((((((f_ex.rf.up (cs := [27]) (c := 27) (by decide)).up (c := 27) (by decide)).up (c := 27) (by decide)).up (c := 27) (by decide)).up (c := 27) (by decide)).up (c := 27) (by decide)) hD5 (fun z => absurd z Bool.false_ne_true)
        refine And.intro (fun _ => ?_) (fun z => absurd rfl z)
        exact And.intro rfl y
      refine And.intro (fun z => absurd z (by decide)) (fun _ => ?_)
      exact tail 112 [112, 114, 105, 99, 101, 32] _ (p + 1 + 1 + 1 + 1 + 1 + 1) hh (by simp only [f_wrd, h0, h1, h2, h3, h4, h5, if_true]) (hD5.up (f_is_lt h5)) (((((((f_ex.rf.up (cs := [27]) (c := 27) (by decide)).up (c := 27) (by decide)).up (c := 27) (by decide)).up (c := 27) (by decide)).up (c := 27) (by decide)).up (c := 27) (by decide)).up (c := 27) (by decide)) w3
    · have n1 : ¬ f_is T n p 99 = true := fun z => g1 ((eqv 99 (by omega)).mpr z)
      have n2 : ¬ f_is T n p 104 = true := fun z => g2 ((eqv 104 (by omega)).mpr z)
      have n3 : ¬ f_is T n p 108 = true := fun z => g3 ((eqv 108 (by omega)).mpr z)
      have n4 : ¬ f_is T n p 112 = true := fun z => g4 ((eqv 112 (by omega)).mpr z)
      have hr : f_head T n p = (false, p, 0, 0) := by unfold f_head; rw [if_neg n3, if_neg n1, if_neg n2, if_neg n4]
      rw [hr] at hsp
      exact And.intro rfl (hsp _ (f_ex.rf.up (by decide)) hD0 (fun z => absurd z Bool.false_ne_true))
