theorem f_bt {c : Bool} {v : Int32} (h : c = true) (hv : v = 1) : some (Value.int (f_b c)) = some (Value.int v) := by rw [h, hv]; rfl
theorem f_bf {c : Bool} {v : Int32} (h : c = false) (hv : v = 0) : some (Value.int (f_b c)) = some (Value.int v) := by rw [h, hv]; rfl
theorem f_b_nt {c : Bool} (h : ¬ f_b c = 0) : c = true := by
  cases c with
  | true => rfl
  | false => exact absurd rfl h
def f_clo (l : List Nat) (T : Nat) : Bool := decide (3 ≤ l.length) && decide (2 * f_ll l < T)
def S_clo : fSp := fun G As M R => match As with
  | [.ref 39] => ∃ (l : List Nat) (T : Nat), G = f_GX ∧ f_SH M l T ∧ R G (some (.int (f_b (f_clo l T)))) M
  | _ => False
theorem f_ll_le {M : fMem} {l : List Nat} {T : Nat} (h : f_SH M l T) (h0 : 0 < l.length) : f_ll l ≤ T ∧ T ≤ 17 := (h.get (k := l.length - 1) (by omega)).2
theorem m_clo : f_Meets 1 (kX7_closes S_lgs) S_clo := by
  intro G As M R hsp X hX hW
  match As, hsp with
  | [.ref 39], ⟨l, T, hG, hS, hsp⟩ =>
    subst hG
    have s1 := hS.1
    have s2 := hS.2.1
    have s3 := hS.2.2.1
    refine f_run_ok (stop := fun q => false) hX 30 _ _ _ _ _ ?_
    refine And.intro (fun h => ?_) (fun h => ?_)
    · have h : M.1 39 1 < 3 := h
      rw [s1] at h
      have h := (nI_ltI (b := 3) (by omega) (by omega)).mp h
      exact And.intro rfl (f_fin hsp (f_bf (by simp [f_clo]; omega) rfl) rfl)
    · have h : ¬ M.1 39 1 < 3 := h
      rw [s1] at h
      have h : ¬ l.length < 3 := fun z => h ((nI_ltI (b := 3) (by omega) (by omega)).mpr z)
      have hl := f_ll_le hS (by omega)
      refine ⟨l, T, rfl, hS, by omega, ?_⟩
      refine ⟨l, T, rfl, hS, by omega, ?_⟩
      refine And.intro (fun h2 => ?_) (fun h2 => ?_)
      · have h2 : M.1 39 2 - nI (f_ll l) ≤ nI (f_ll l) := h2
        rw [s2, pk_sub (by omega)] at h2
        have h2 := (nI_leI (by omega) (by omega)).mp h2
        exact And.intro rfl (f_fin hsp (f_bf (by simp [f_clo]; omega) rfl) rfl)
      · have h2 : ¬ M.1 39 2 - nI (f_ll l) ≤ nI (f_ll l) := h2
        rw [s2, pk_sub (by omega)] at h2
        have h2 : ¬ T - f_ll l ≤ f_ll l := fun z => h2 ((nI_leI (by omega) (by omega)).mpr z)
        exact And.intro rfl (f_fin hsp (f_bt (by simp [f_clo]; omega) rfl) rfl)
def f_lsq (l : List Nat) : Nat := l.getD 0 0 * l.getD 0 0 + l.getD 1 0 * l.getD 1 0
def S_lsq : fSp := fun G As M R => match As with
  | [.ref 39] => ∃ (l : List Nat) (T : Nat), G = f_GX ∧ f_SH M l T ∧ 2 ≤ l.length ∧ R G (some (.int (nI (f_lsq l)))) M
  | _ => False
theorem m_lsq : f_Meets 1 (kX7_lesserSquares S_at) S_lsq := by
  intro G As M R hsp X hX hW
  match As, hsp with
  | [.ref 39], ⟨l, T, hG, hS, h2, hsp⟩ =>
    subst hG
    have e0 := (hS.get (k := 0) (by omega)).1
    have e1 := (hS.get (k := 1) (by omega)).1
    have hx : f_at (17, M.1 40) 0 * f_at (17, M.1 40) 0 + f_at (17, M.1 40) 1 * f_at (17, M.1 40) 1 = nI (f_lsq l) := by
      have e0 : f_at (17, M.1 40) 0 = nI (l.getD 0 0) := e0
      have e1 : f_at (17, M.1 40) 1 = nI (l.getD 1 0) := e1
      rw [e0, e1, pk_mul, pk_mul, nI_add]
      rfl
    rw [← hx] at hsp
    refine f_run_ok (stop := fun q => false) hX 40 _ _ _ _ _ ?_
    exact hsp
theorem f_lsq_lt {M : fMem} {l : List Nat} {T : Nat} (h : f_SH M l T) (h0 : 2 ≤ l.length) : f_lsq l < 1000 ∧ f_ll l * f_ll l < 1000 := by
  have a := (h.get (k := 0) (by omega)).2
  have b := (h.get (k := 1) (by omega)).2
  have c := f_ll_le h (by omega)
  have a2 := Nat.mul_le_mul (show l.getD 0 0 ≤ 17 by omega) (show l.getD 0 0 ≤ 17 by omega)
  have b2 := Nat.mul_le_mul (show l.getD 1 0 ≤ 17 by omega) (show l.getD 1 0 ≤ 17 by omega)
  have c2 := Nat.mul_le_mul (show f_ll l ≤ 17 by omega) (show f_ll l ≤ 17 by omega)
  unfold f_lsq
  omega
def f_sqr (l : List Nat) : Bool := decide (l.length = 3) && decide (f_lsq l = f_ll l * f_ll l)
def f_blu (l : List Nat) (T : Nat) : Bool := decide (l.length = 3) && (f_clo l T && decide (f_lsq l < f_ll l * f_ll l))
def S_sqr : fSp := fun G As M R => match As with
  | [.ref 39] => ∃ (l : List Nat) (T : Nat), G = f_GX ∧ f_SH M l T ∧ R G (some (.int (f_b (f_sqr l)))) M
  | _ => False
theorem m_sqr : f_Meets 1 (kX7_isSquare S_lsq S_lgs) S_sqr := by
  intro G As M R hsp X hX hW
  match As, hsp with
  | [.ref 39], ⟨l, T, hG, hS, hsp⟩ =>
    subst hG
    have s1 := hS.1
    have s3 := hS.2.2.1
    refine f_run_ok (stop := fun q => false) hX 40 _ _ _ _ _ ?_
    refine And.intro (fun h => ?_) (fun h => ?_)
    · have h : M.1 39 1 = 3 := h
      rw [s1] at h
      have h := (nI_eq (b := 3) (by omega) (by omega)).mp h
      obtain ⟨b1, b2⟩ := f_lsq_lt hS (by omega)
      refine ⟨l, T, rfl, hS, by omega, ?_⟩
      refine ⟨l, T, rfl, hS, by omega, ?_⟩
      refine ⟨l, T, rfl, hS, by omega, ?_⟩
      refine And.intro (fun h2 => ?_) (fun h2 => ?_)
      · have h2 : nI (f_lsq l) = nI (f_ll l) * nI (f_ll l) := h2
        rw [pk_mul] at h2
        have h2 := (nI_eq (by omega) (by omega)).mp h2
        exact And.intro rfl (f_fin hsp (f_bt (by simp [f_sqr, h, h2]) rfl) rfl)
      · have h2 : ¬ nI (f_lsq l) = nI (f_ll l) * nI (f_ll l) := h2
        rw [pk_mul] at h2
        have h2 : ¬ f_lsq l = f_ll l * f_ll l := fun z => h2 (by rw [z])
        exact And.intro rfl (f_fin hsp (f_bf (by simp [f_sqr, h2]) rfl) rfl)
    · have h : ¬ M.1 39 1 = 3 := h
      rw [s1] at h
      have h : ¬ l.length = 3 := fun z => h (by rw [z]; rfl)
      exact And.intro rfl (f_fin hsp (f_bf (by simp [f_sqr, h]) rfl) rfl)
def S_blu : fSp := fun G As M R => match As with
  | [.ref 39] => ∃ (l : List Nat) (T : Nat), G = f_GX ∧ f_SH M l T ∧ R G (some (.int (f_b (f_blu l T)))) M
  | _ => False
theorem m_blu : f_Meets 1 (kX7_isBlunt S_clo S_lsq S_lgs) S_blu := by
  intro G As M R hsp X hX hW
  match As, hsp with
  | [.ref 39], ⟨l, T, hG, hS, hsp⟩ =>
    subst hG
    have s1 := hS.1
    have s3 := hS.2.2.1
    refine f_run_ok (stop := fun q => false) hX 50 _ _ _ _ _ ?_
    refine And.intro (fun h => ?_) (fun h => ?_)
    · have h : M.1 39 1 = 3 := h
      rw [s1] at h
      have h := (nI_eq (b := 3) (by omega) (by omega)).mp h
      obtain ⟨b1, b2⟩ := f_lsq_lt hS (by omega)
      refine ⟨l, T, rfl, hS, ?_⟩
      refine And.intro (fun h0 => ?_) (fun h0 => ?_)
      · have h0 := f_b0.mp h0
        exact And.intro rfl (f_fin hsp (f_bf (by simp [f_blu, h0]) rfl) rfl)
      · have h0 := f_b_nt h0
        refine ⟨l, T, rfl, hS, by omega, ?_⟩
        refine ⟨l, T, rfl, hS, by omega, ?_⟩
        refine ⟨l, T, rfl, hS, by omega, ?_⟩
        refine And.intro (fun h2 => ?_) (fun h2 => ?_)
        · have h2 : nI (f_ll l) * nI (f_ll l) ≤ nI (f_lsq l) := h2
          rw [pk_mul] at h2
          have h2 := (nI_leI (by omega) (by omega)).mp h2
          exact And.intro rfl (f_fin hsp (f_bf (by simp [f_blu, h0, h]; omega) rfl) rfl)
        · have h2 : ¬ nI (f_ll l) * nI (f_ll l) ≤ nI (f_lsq l) := h2
          rw [pk_mul] at h2
          have h2 : ¬ f_ll l * f_ll l ≤ f_lsq l := fun z => h2 ((nI_leI (by omega) (by omega)).mpr z)
          exact And.intro rfl (f_fin hsp (f_bt (by simp [f_blu, h0, h]; omega) rfl) rfl)
    · have h : ¬ M.1 39 1 = 3 := h
      rw [s1] at h
      have h : ¬ l.length = 3 := fun z => h (by rw [z]; rfl)
      exact And.intro rfl (f_fin hsp (f_bf (by simp [f_blu, h]) rfl) rfl)
/-! no two alike; one of them is n -/
def f_alk (l : List Nat) : Nat → Bool
  | 0 => false
  | i + 1 => f_alk l i || decide (l.getD (i + 1) 0 = l.getD i 0)
def f_unl (l : List Nat) : Bool := !f_alk l (l.length - 1)
def S_unl : fSp := fun G As M R => match As with
  | [.ref 39] => ∃ (l : List Nat) (T : Nat), G = f_GX ∧ f_SH M l T ∧ 0 < l.length ∧ R G (some (.int (f_b (f_unl l)))) M
  | _ => False
theorem f_alk_mono (l : List Nat) : ∀ n i, i ≤ n → f_alk l i = true → f_alk l n = true := by
  intro n
  induction n with
  | zero => intro i h q; rw [show i = 0 by omega] at q; exact q
  | succ n ih =>
    intro i h q
    by_cases e : i = n + 1
    · rw [← e]; exact q
    · show (f_alk l n || _) = true
      rw [ih i (by omega) q]; rfl
theorem m_unl : f_Meets 2 (kX7_isUnlike S_at) S_unl := by
  intro G As M R hsp X hX hW
  match As, hsp with
  | [.ref 39], ⟨l, T, hG, hS, h0, hsp⟩ =>
    subst hG
    have s1 := hS.1
    have s3 := hS.2.2.1
    have loop : ∀ n i, i + n = l.length - 1 → f_alk l i = false → X f_GX 2 [some (.ref 39), some (.int (nI (i + 1)))] [] M := by
      intro n
      induction n with
      | zero =>
        intro i hi hk
        refine f_run_ok (stop := fun q => Nat.beq q 2) hX 30 _ _ _ _ _ ?_
        refine And.intro (fun h => ?_) (fun h => ?_)
        · exact And.intro rfl (f_fin hsp (f_bt (by unfold f_unl; rw [show l.length - 1 = i by omega, hk]; rfl) rfl) rfl)
        · refine absurd ?_ h
          show M.1 39 1 ≤ nI (i + 1)
          rw [s1]
          exact nI_le (by omega) (by omega)
      | succ n ih =>
        intro i hi hk
        have e1 := (hS.get (k := i + 1) (by omega))
        have e2 := (hS.get (k := i) (by omega))
        have em : nI (i + 1) - 1 = nI i := nI_pred i
        refine f_run_ok (stop := fun q => Nat.beq q 2) hX 30 _ _ _ _ _ ?_
        refine And.intro (fun h => ?_) (fun h => ?_)
        · have h : M.1 39 1 ≤ nI (i + 1) := h
          rw [s1] at h
          have := (nI_leI (by omega) (by omega)).mp h
          omega
        · refine And.intro (fun h2 => ?_) (fun h2 => ?_)
          · have h2 : f_at (17, M.1 40) (nI (i + 1)) = f_at (17, M.1 40) (nI (i + 1) - 1) := h2
            rw [em, e1.1, e2.1] at h2
            have h2 := (nI_eq (by omega) (by omega)).mp h2
            exact And.intro rfl (f_fin hsp (f_bf (by
              unfold f_unl
              rw [f_alk_mono l (l.length - 1) (i + 1) (by omega) (by show (f_alk l i || decide (l.getD (i + 1) 0 = l.getD i 0)) = true; rw [h2]; simp)]
              rfl) rfl) rfl)
          · have h2 : ¬ f_at (17, M.1 40) (nI (i + 1)) = f_at (17, M.1 40) (nI (i + 1) - 1) := h2
            rw [em, e1.1, e2.1] at h2
            have h2 : ¬ l.getD (i + 1) 0 = l.getD i 0 := fun z => h2 (by rw [z])
            have nx := ih (i + 1) (by omega) (by show (f_alk l i || decide (l.getD (i + 1) 0 = l.getD i 0)) = false; rw [hk, decide_eq_false h2]; rfl)
            rw [nI_succ (i + 1)] at nx
            exact nx
    refine f_run_ok (stop := fun q => Nat.beq q 2) hX 30 _ _ _ _ _ ?_
    exact loop (l.length - 1) 0 (by omega) rfl
def f_hsN (l : List Nat) (n : Nat) : Nat → Bool
  | 0 => false
  | i + 1 => f_hsN l n i || decide (l.getD i 0 = n)
def f_hs (l : List Nat) (n : Nat) : Bool := f_hsN l n l.length
theorem f_hsN_mono (l : List Nat) (v : Nat) : ∀ n i, i ≤ n → f_hsN l v i = true → f_hsN l v n = true := by
  intro n
  induction n with
  | zero => intro i h q; rw [show i = 0 by omega] at q; exact q
  | succ n ih =>
    intro i h q
    by_cases e : i = n + 1
    · rw [← e]; exact q
    · show (f_hsN l v n || _) = true
      rw [ih i (by omega) q]; rfl
def S_hs : fSp := fun G As M R => match As with
  | [.ref 39, .int z] => ∃ (l : List Nat) (T n : Nat), G = f_GX ∧ z = nI n ∧ n < 1000 ∧ f_SH M l T ∧ R G (some (.int (f_b (f_hs l n)))) M
  | _ => False
theorem m_hs : f_Meets 3 (kX7_has S_at) S_hs := by
  intro G As M R hsp X hX hW
  match As, hsp with
  | [.ref 39, .int z], ⟨l, T, v, hG, hz, hv, hS, hsp⟩ =>
    subst hG; subst hz
    have s1 := hS.1
    have s3 := hS.2.2.1
    have loop : ∀ n i, i + n = l.length → f_hsN l v i = false → X f_GX 2 [some (.ref 39), some (.int (nI v)), some (.int (nI i))] [] M := by
      intro n
      induction n with
      | zero =>
        intro i hi hk
        refine f_run_ok (stop := fun q => Nat.beq q 2) hX 30 _ _ _ _ _ ?_
        refine And.intro (fun h => ?_) (fun h => ?_)
        · exact And.intro rfl (f_fin hsp (f_bf (by unfold f_hs; rw [show l.length = i by omega, hk]) rfl) rfl)
        · refine absurd ?_ h
          show M.1 39 1 ≤ nI i
          rw [s1]
          exact nI_le (by omega) (by omega)
      | succ n ih =>
        intro i hi hk
        have e1 := (hS.get (k := i) (by omega))
        refine f_run_ok (stop := fun q => Nat.beq q 2) hX 30 _ _ _ _ _ ?_
        refine And.intro (fun h => ?_) (fun h => ?_)
        · have h : M.1 39 1 ≤ nI i := h
          rw [s1] at h
          have := (nI_leI (by omega) (by omega)).mp h
          omega
        · refine And.intro (fun h2 => ?_) (fun h2 => ?_)
          · have h2 : f_at (17, M.1 40) (nI i) = nI v := h2
            rw [e1.1] at h2
            have h2 := (nI_eq (by omega) (by omega)).mp h2
            exact And.intro rfl (f_fin hsp (f_bt (by
              unfold f_hs
              exact f_hsN_mono l v l.length (i + 1) (by omega) (by show (f_hsN l v i || decide (l.getD i 0 = v)) = true; rw [h2]; simp)) rfl) rfl)
          · have h2 : ¬ f_at (17, M.1 40) (nI i) = nI v := h2
            rw [e1.1] at h2
            have h2 : ¬ l.getD i 0 = v := fun z => h2 (by rw [z])
            have nx := ih (i + 1) (by omega) (by show (f_hsN l v i || decide (l.getD i 0 = v)) = false; rw [hk, decide_eq_false h2]; rfl)
            rw [nI_succ i] at nx
            exact nx
    refine f_run_ok (stop := fun q => Nat.beq q 2) hX 30 _ _ _ _ _ ?_
    exact loop l.length 0 (by omega) rfl
def f_fit (l : List Nat) (T what n : Nat) : Bool :=
  if what = 0 then f_clo l T else if what = 1 then f_sqr l else if what = 2 then f_blu l T else if what = 3 then decide (n ≤ f_ll l) else if what = 4 then decide (n ≤ l.getD 0 0) else if what = 5 then f_unl l else f_hs l n
def S_fit : fSp := fun G As M R => match As with
  | [.ref 39, .int zw, .int zn] => ∃ (l : List Nat) (T w n : Nat), G = f_GX ∧ zw = nI w ∧ w < 7 ∧ zn = nI n ∧ n < 1000 ∧ f_SH M l T ∧ 0 < l.length ∧ R G (some (.int (f_b (f_fit l T w n)))) M
  | _ => False
theorem m_fit : f_Meets 3 (kX7_fits S_clo S_sqr S_blu S_lgs S_lat S_unl S_hs) S_fit := by
  intro G As M R hsp X hX hW
  match As, hsp with
  | [.ref 39, .int zw, .int zn], ⟨l, T, w, n, hG, hzw, hw, hzn, hn, hS, h0, hsp⟩ =>
    subst hG; subst hzw; subst hzn
    have key : ∀ v : Nat, v < 7 → nI w = nI v → w = v := fun v hv h => (nI_eq (by omega) (by omega)).mp h
    have hl := f_ll_le hS h0
    have hl0 := (hS.get (k := 0) h0).2
    refine f_run_ok (stop := fun q => false) hX 30 _ _ _ _ _ ?_
    refine And.intro (fun h => ?_) (fun g0 => ?_)
    · have h := key 0 (by omega) h; subst h
      exact ⟨l, T, rfl, hS, And.intro (f_nar _ (f_bz _)) hsp⟩
    have g0 : ¬ w = 0 := fun z => g0 (by rw [z]; rfl)
    refine And.intro (fun h => ?_) (fun g1 => ?_)
    · have h := key 1 (by omega) h; subst h
      exact ⟨l, T, rfl, hS, And.intro (f_nar _ (f_bz _)) hsp⟩
    have g1 : ¬ w = 1 := fun z => g1 (by rw [z]; rfl)
    refine And.intro (fun h => ?_) (fun g2 => ?_)
    · have h := key 2 (by omega) h; subst h
      exact ⟨l, T, rfl, hS, And.intro (f_nar _ (f_bz _)) hsp⟩
    have g2 : ¬ w = 2 := fun z => g2 (by rw [z]; rfl)
    refine And.intro (fun h => ?_) (fun g3 => ?_)
    · have h := key 3 (by omega) h; subst h
      refine ⟨l, T, rfl, hS, h0, ?_⟩
      refine And.intro (fun h2 => ?_) (fun h2 => ?_)
      · have h2 := (nI_ltI (by omega) (by omega)).mp h2
        exact And.intro rfl (f_fin hsp (f_bf (by simp [f_fit]; omega) rfl) rfl)
      · have h2 : ¬ f_ll l < n := fun z => h2 ((nI_ltI (by omega) (by omega)).mpr z)
        exact And.intro rfl (f_fin hsp (f_bt (by simp [f_fit]; omega) rfl) rfl)
    have g3 : ¬ w = 3 := fun z => g3 (by rw [z]; rfl)
    refine And.intro (fun h => ?_) (fun g4 => ?_)
    · have h := key 4 (by omega) h; subst h
      refine ⟨l, T, 0, rfl, rfl, by omega, hS, ?_⟩
      refine And.intro (fun h2 => ?_) (fun h2 => ?_)
      · have h2 := (nI_ltI (by omega) (by omega)).mp h2
        exact And.intro rfl (f_fin hsp (f_bf (by show decide (n ≤ l.getD 0 0) = false; exact decide_eq_false (by omega)) rfl) rfl)
      · have h2 : ¬ l.getD 0 0 < n := fun z => h2 ((nI_ltI (by omega) (by omega)).mpr z)
        exact And.intro rfl (f_fin hsp (f_bt (by show decide (n ≤ l.getD 0 0) = true; exact decide_eq_true (by omega)) rfl) rfl)
    have g4 : ¬ w = 4 := fun z => g4 (by rw [z]; rfl)
    refine And.intro (fun h => ?_) (fun g5 => ?_)
    · have h := key 5 (by omega) h; subst h
      exact ⟨l, T, rfl, hS, h0, And.intro (f_nar _ (f_bz _)) hsp⟩
    have g5 : ¬ w = 5 := fun z => g5 (by rw [z]; rfl)
    refine ⟨l, T, n, rfl, rfl, hn, hS, And.intro (f_nar _ (f_bz _)) ?_⟩
    have e : f_fit l T w n = f_hs l n := by unfold f_fit; rw [if_neg g0, if_neg g1, if_neg g2, if_neg g3, if_neg g4, if_neg g5]
    rw [e] at hsp
    exact hsp
