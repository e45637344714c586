/-! ===== the reference: what is asked of sorted lengths; shape ===== -/
def f_LS (M : fMem) (l : List Nat) (y : fYd) : Prop := M.1 100 17 = nI l.length ∧ 0 < l.length ∧ l.length ≤ 17 ∧ f_SHM M l ∧ f_HR 101 y M ∧ y.1 ≤ 17
theorem f_LS.at {M : fMem} {l : List Nat} {y : fYd} (h : f_LS M l y) {i : Nat} (hi : i < l.length) {z : Int32} (hz : z = nI i) : vp_in z 17 ∧ M.1 109 z.toNatClampNeg = nI (l.getD i 0) ∧ l.getD i 0 ≤ 17 := by
  subst hz
  have hl := h.2.2.1
  obtain ⟨i1, i2⟩ := f_ix (z := nI i) (n := 17) rfl (by omega) (by omega)
  have hg : l[i]? = some (l.getD i 0) := by rw [List.getD_eq_getElem?_getD, List.getElem?_eq_getElem hi]; rfl
  obtain ⟨a, b⟩ := h.2.2.2.1 i _ hg
  exact ⟨i1, by rw [i2]; exact a, b⟩
theorem f_LS.la {M : fMem} {l : List Nat} {y : fYd} (h : f_LS M l y) : vp_in (M.1 100 17 - 1) 17 ∧ M.1 109 (M.1 100 17 - 1).toNatClampNeg = nI (f_ll l) ∧ f_ll l ≤ 17 := by
  have h0 := h.2.1
  exact h.at (i := l.length - 1) (by omega) (by rw [h.1]; exact pk_sub (b := 1) (by omega))
theorem f_LS.em {ls : List Nat} {M M' : fMem} {l : List Nat} {y : fYd} (h : f_LS M l y) (he : f_em ls M M') (h1 : 101 ∉ ls ∧ 109 ∉ ls ∧ 1017 ∉ ls) : f_LS M' l y :=
  ⟨(he.2.2.1 17 h1.2.2).trans h.1, h.2.1, h.2.2.1, fun i x hx => by rw [he.1 109 (by decide) h1.2.1]; exact h.2.2.2.1 i x hx, h.2.2.2.2.1.cg (he.1 101 (by decide) h1.1), h.2.2.2.2.2⟩
def S_dc : fSp := fun G As M R => match As with
  | [.ref 100] => ∃ (l : List Nat) (y : fYd), G = f_GM ∧ f_LS M l y ∧ R G (some (.int (f_b (f_clo l y.1)))) M
  | _ => False
set_option maxRecDepth 20000 in
theorem m_dc : f_Meets 1 (kX12_doClose S_lo) S_dc := by
  intro G As M R hsp X hX hW
  match As, hsp with
  | [.ref 100], ⟨l, y, hG, hL, hsp⟩ =>
    subst hG
    have hl := hL.2.2.1
    obtain ⟨i1, i2, i3⟩ := hL.la
    have hy := hL.2.2.2.2.2
    refine f_run_ok (stop := fun q => false) hX 30 _ _ _ _ _ ?_
    refine And.intro (fun h => ?_) (fun h => ?_)
    · have h : M.1 100 17 ≤ 2 := h
      rw [hL.1] at h
      have h := (nI_leI (b := 2) (by omega) (by omega)).mp h
      have e : f_clo l y.1 = false := by unfold f_clo; rw [decide_eq_false (show ¬ 3 ≤ l.length by omega)]; rfl
      rw [e] at hsp
      exact And.intro rfl hsp
    · have h : ¬ M.1 100 17 ≤ 2 := h
      rw [hL.1] at h
      have h : ¬ l.length ≤ 2 := fun z => h (nI_le (b := 2) z (by omega))
      have em : 2 * M.1 109 (M.1 100 17 - 1).toNatClampNeg = nI (2 * f_ll l) := by rw [i2]; exact pk_mul 2 _
      refine And.intro i1 ⟨y, rfl, hL.2.2.2.2.1, ?_⟩
      refine And.intro (fun h2 => ?_) (fun h2 => ?_)
      · have h2 : nI y.1 ≤ 2 * M.1 109 (M.1 100 17 - 1).toNatClampNeg := h2
        rw [em] at h2
        have h2 := (nI_leI (by omega) (by omega)).mp h2
        have e : f_clo l y.1 = false := by unfold f_clo; rw [decide_eq_false (show ¬ 2 * f_ll l < y.1 by omega), Bool.and_false]
        rw [e] at hsp
        exact And.intro rfl hsp
      · have h2 : ¬ nI y.1 ≤ 2 * M.1 109 (M.1 100 17 - 1).toNatClampNeg := h2
        rw [em] at h2
        have h2 : ¬ y.1 ≤ 2 * f_ll l := fun z => h2 (nI_le z (by omega))
        have e : f_clo l y.1 = true := by unfold f_clo; rw [decide_eq_true (show 3 ≤ l.length by omega), decide_eq_true (show 2 * f_ll l < y.1 by omega)]; rfl
        rw [e] at hsp
        exact And.intro rfl hsp
def S_sqs : fSp := fun G As M R => match As with
  | [.ref 100] => ∃ (l : List Nat) (y : fYd), G = f_GM ∧ f_LS M l y ∧ l.length = 3 ∧ R G (some (.int (nI (f_lsq l) - nI (f_ll l * f_ll l)))) M
  | _ => False
set_option maxRecDepth 20000 in
theorem m_sqs : f_Meets 1 kX12_squares S_sqs := by
  intro G As M R hsp X hX hW
  match As, hsp with
  | [.ref 100], ⟨l, y, hG, hL, h3, hsp⟩ =>
    subst hG
    obtain ⟨a1, a2, a3⟩ := hL.at (i := 0) (z := 0) (by omega) rfl
    obtain ⟨b1, b2, b3⟩ := hL.at (i := 1) (z := 1) (by omega) rfl
    obtain ⟨c1, c2, c3⟩ := hL.at (i := 2) (z := 2) (by omega) rfl
    have e2 : l.getD 2 0 = f_ll l := by unfold f_ll; rw [h3]
    refine f_run_ok (stop := fun q => false) hX 40 _ _ _ _ _ ?_
    refine And.intro a1 (And.intro a1 (And.intro b1 (And.intro b1 (And.intro c1 (And.intro c1 ?_)))))
    refine f_fin hsp (congrArg (fun z => some (Value.int z)) ?_) rfl
    show _ = M.1 109 (0 : Int32).toNatClampNeg * M.1 109 (0 : Int32).toNatClampNeg + M.1 109 (1 : Int32).toNatClampNeg * M.1 109 (1 : Int32).toNatClampNeg - M.1 109 (2 : Int32).toNatClampNeg * M.1 109 (2 : Int32).toNatClampNeg
    rw [a2, b2, c2, pk_mul, pk_mul, pk_mul, nI_add, e2]
    rfl
def S_hoa : fSp := fun G As M R => match As with
  | [.ref 100, .int zn, .int za] => ∃ (l : List Nat) (y : fYd) (n : Nat), G = f_GM ∧ f_LS M l y ∧ zn = nI n ∧ n < 1000 ∧ ((za = 1 ∧ R G (some (.int (f_b (f_alk l (l.length - 1))))) M) ∨ (za = 0 ∧ R G (some (.int (f_b (f_hs l n)))) M))
  | _ => False
set_option maxRecDepth 20000 in
theorem m_hoa : f_Meets 5 kX12_hasOfAll S_hoa := by
  intro G As M R hsp X hX hW
  match As, hsp with
  | [.ref 100, .int zn, .int za], ⟨l, y, n, hG, hL, hzn, hn, hsp⟩ =>
    subst hG; subst hzn
    have hl := hL.2.2.1
    have hl0 := hL.2.1
    rcases hsp with ⟨rfl, hsp⟩ | ⟨rfl, hsp⟩
    · have loop : ∀ t k, k + t = l.length → X f_GM 5 [some (.ref 100), some (.int (nI n)), some (.int 1), some (.int (f_b (f_alk l (k - 1)))), some (.int (nI k))] [] M := by
        intro t
        induction t with
        | zero =>
          intro k hk
          have hk : k = l.length := by omega
          refine f_run_ok (stop := fun q => false) hX 20 _ _ _ _ _ ?_
          refine And.intro (fun _ => ?_) (fun z => ?_)
          · exact And.intro (f_nar _ (f_bz _)) (f_fin hsp (by rw [hk]) rfl)
          · have z : ¬ M.1 100 17 ≤ nI k := z
            rw [hL.1] at z
            exact absurd (nI_le (by omega) (by omega)) z
        | succ t ih =>
          intro k hk
          have q := ih (k + 1) (by omega)
          rw [Nat.add_sub_cancel, nI_succ k] at q
          have fin : ∀ c : Bool, f_alk l k = c → X f_GM 65 [some (.ref 100), some (.int (nI n)), some (.int 1), some (.int (f_b (f_alk l (k - 1)))), some (.int (nI k))] [.int (f_b c)] M := by
            intro c hc
            rw [hc] at q
            exact f_run_ok (stop := fun q => Nat.beq q 5) hX 20 _ _ _ _ _ q
          refine f_run_ok (stop := fun q => Nat.beq q 65) hX 60 _ _ _ _ _ ?_
          refine And.intro (fun z => ?_) (fun _ => ?_)
          · have z : M.1 100 17 ≤ nI k := z
            rw [hL.1] at z
            exact absurd ((nI_leI (by omega) (by omega)).mp z) (by omega)
          cases hk0 : k with
          | zero =>
            refine And.intro (fun _ => ?_) (fun z => absurd rfl z)
            refine And.intro (fun z => absurd z (by decide)) (fun _ => ?_)
            refine And.intro (fun _ => ?_) (fun z => absurd (show nI 0 ≤ 0 by decide) z)
            have := fin false (by rw [hk0]; rfl)
            rw [hk0] at this
            exact this
          | succ j =>
            have hst : f_alk l k = (f_alk l j || decide (l.getD (j + 1) 0 = l.getD j 0)) := by rw [hk0]; rfl
            have hkj : k - 1 = j := by omega
            rw [hkj, hk0] at fin
            rw [hk0] at hst
            obtain ⟨i1, i2, i3⟩ := hL.at (i := j + 1) (z := nI (j + 1)) (by omega) rfl
            obtain ⟨j1, j2, j3⟩ := hL.at (i := j) (z := nI (j + 1) - 1) (by omega) (nI_pred j)
            refine And.intro (fun h => ?_) (fun h => ?_)
            · have h : f_b (f_alk l j) = 0 := h
              have h := f_b0.mp h
              refine And.intro (fun z => absurd z (by decide)) (fun _ => ?_)
              refine And.intro (fun z => absurd z (nI_nle (by omega) (by omega))) (fun _ => ?_)
              refine And.intro i1 (And.intro j1 ?_)
              refine And.intro (fun h2 => ?_) (fun h2 => ?_)
              · have h2 : M.1 109 (nI (j + 1)).toNatClampNeg = M.1 109 (nI (j + 1) - 1).toNatClampNeg := h2
                rw [i2, j2] at h2
                have h2 := (nI_eq (by omega) (by omega)).mp h2
                exact fin true (by rw [hst, decide_eq_true h2, Bool.or_true])
              · have h2 : ¬ M.1 109 (nI (j + 1)).toNatClampNeg = M.1 109 (nI (j + 1) - 1).toNatClampNeg := h2
                rw [i2, j2] at h2
                have h2 : ¬ l.getD (j + 1) 0 = l.getD j 0 := fun z => h2 (by rw [z])
                exact fin false (by rw [hst, decide_eq_false h2, h]; rfl)
            · have h : ¬ f_b (f_alk l j) = 0 := h
              have h := f_b_nt h
              exact fin true (by rw [hst, h]; rfl)
      refine f_run_ok (stop := fun q => Nat.beq q 5) hX 20 _ _ _ _ _ ?_
      exact loop l.length 0 (by omega)
    · have loop : ∀ t k, k + t = l.length → X f_GM 5 [some (.ref 100), some (.int (nI n)), some (.int 0), some (.int (f_b (f_hsN l n k))), some (.int (nI k))] [] M := by
        intro t
        induction t with
        | zero =>
          intro k hk
          have hk : k = l.length := by omega
          refine f_run_ok (stop := fun q => false) hX 20 _ _ _ _ _ ?_
          refine And.intro (fun _ => ?_) (fun z => ?_)
          · exact And.intro (f_nar _ (f_bz _)) (f_fin hsp (by rw [hk]; rfl) rfl)
          · have z : ¬ M.1 100 17 ≤ nI k := z
            rw [hL.1] at z
            exact absurd (nI_le (by omega) (by omega)) z
        | succ t ih =>
          intro k hk
          have q := ih (k + 1) (by omega)
          rw [nI_succ k] at q
          have hst : f_hsN l n (k + 1) = (f_hsN l n k || decide (l.getD k 0 = n)) := rfl
          have fin : ∀ c : Bool, f_hsN l n (k + 1) = c → X f_GM 65 [some (.ref 100), some (.int (nI n)), some (.int 0), some (.int (f_b (f_hsN l n k))), some (.int (nI k))] [.int (f_b c)] M := by
            intro c hc
            rw [hc] at q
            exact f_run_ok (stop := fun q => Nat.beq q 5) hX 20 _ _ _ _ _ q
          obtain ⟨i1, i2, i3⟩ := hL.at (i := k) (z := nI k) (by omega) rfl
          refine f_run_ok (stop := fun q => Nat.beq q 65) hX 60 _ _ _ _ _ ?_
          refine And.intro (fun z => ?_) (fun _ => ?_)
          · have z : M.1 100 17 ≤ nI k := z
            rw [hL.1] at z
            exact absurd ((nI_leI (by omega) (by omega)).mp z) (by omega)
          refine And.intro (fun h => ?_) (fun h => ?_)
          · have h := f_b0.mp h
            refine And.intro (fun _ => ?_) (fun z => absurd rfl z)
            refine And.intro i1 ?_
            refine And.intro (fun h2 => ?_) (fun h2 => ?_)
            · have h2 : M.1 109 (nI k).toNatClampNeg = nI n := h2
              rw [i2] at h2
              have h2 := (nI_eq (by omega) (by omega)).mp h2
              exact fin true (by rw [hst, decide_eq_true h2, Bool.or_true])
            · have h2 : ¬ M.1 109 (nI k).toNatClampNeg = nI n := h2
              rw [i2] at h2
              have h2 : ¬ l.getD k 0 = n := fun z => h2 (by rw [z])
              exact fin false (by rw [hst, decide_eq_false h2, h]; rfl)
          · have h := f_b_nt h
            exact fin true (by rw [hst, h]; rfl)
      refine f_run_ok (stop := fun q => Nat.beq q 5) hX 20 _ _ _ _ _ ?_
      exact loop l.length 0 (by omega)
theorem f_d0 {a b : Nat} (ha : a < 2 ^ 30) (hb : b < 2 ^ 30) : nI a - nI b = 0 ↔ a = b := by
  have h := pk_sub_toInt ha hb
  constructor
  · intro e
    rw [e, Int32.toInt_zero] at h
    omega
  · intro e
    refine Int32.toInt_inj.mp ?_
    rw [h, Int32.toInt_zero]
    omega
theorem f_d1 {a b : Nat} (ha : a < 2 ^ 30) (hb : b < 2 ^ 30) : 0 ≤ nI a - nI b ↔ b ≤ a := by
  rw [Int32.le_iff_toInt_le, pk_sub_toInt ha hb, Int32.toInt_zero]
  omega
def S_su : fSp := fun G As M R => match As with
  | [.ref 100, .int zw, .int zn] => ∃ (l : List Nat) (y : fYd) (w n : Nat), G = f_GM ∧ f_LS M l y ∧ zw = nI w ∧ w < 7 ∧ zn = nI n ∧ n < 1000 ∧ R G (some (.int (f_b (f_fit l y.1 w n)))) M
  | _ => False
set_option maxRecDepth 20000 in
theorem m_su : f_Meets 3 (kX12_isSuch S_dc S_sqs S_hoa) S_su := by
  intro G As M R hsp X hX hW
  match As, hsp with
  | [.ref 100, .int zw, .int zn], ⟨l, y, w, n, hG, hL, hzw, hw, hzn, hn, hsp⟩ =>
    subst hG; subst hzw; subst hzn
    have hl := hL.2.2.1
    obtain ⟨i1, i2, i3⟩ := hL.la
    obtain ⟨j1, j2, j3⟩ := hL.at (i := 0) (z := 0) hL.2.1 rfl
    unfold f_fit at hsp
    have bb : ∀ c : Bool, R f_GM (some (Value.int (f_b c))) M → (c = true → (narrow .boolean (.int 1) = Value.int 1 ∧ R f_GM (some (.int 1)) M)) ∧ (c = false → (narrow .boolean (.int 0) = Value.int 0 ∧ R f_GM (some (.int 0)) M)) := fun c h => ⟨fun e => ⟨rfl, by rw [e] at h; exact h⟩, fun e => ⟨rfl, by rw [e] at h; exact h⟩⟩
    have hb : l.length = 3 → f_lsq l ≤ 578 ∧ f_ll l * f_ll l ≤ 289 := fun h3 => by
      obtain ⟨_, _, a3⟩ := hL.at (i := 0) (z := 0) (by omega) rfl
      obtain ⟨_, _, b3⟩ := hL.at (i := 1) (z := 1) (by omega) rfl
      have k1 : l.getD 0 0 * l.getD 0 0 ≤ 17 * 17 := Nat.mul_le_mul a3 a3
      have k2 : l.getD 1 0 * l.getD 1 0 ≤ 17 * 17 := Nat.mul_le_mul b3 b3
      have k3 : f_ll l * f_ll l ≤ 17 * 17 := Nat.mul_le_mul i3 i3
      unfold f_lsq
      omega
    refine f_run_ok (stop := fun q => false) hX 60 _ _ _ _ _ ?_
    refine And.intro (fun h => ?_) (fun h => And.intro (fun h2 => ?_) (fun h2 => And.intro (fun h3 => ?_) (fun h3 => And.intro (fun h4 => ?_) (fun h4 => And.intro (fun h5 => ?_) (fun h5 => And.intro (fun h6 => ?_) (fun h6 => ?_))))))
    · have h := (nI_eq (b := 0) (by omega) (by omega)).mp h
      rw [if_pos h] at hsp
      exact ⟨l, y, rfl, hL, And.intro (f_nar _ (f_bz _)) hsp⟩
    · have h2 := (nI_eq (b := 1) (by omega) (by omega)).mp h2
      rw [if_neg (by omega), if_pos h2] at hsp
      obtain ⟨c1, c2⟩ := bb _ hsp
      refine And.intro (fun z => ?_) (fun z => ?_)
      · have z : M.1 100 17 = 3 := z
        rw [hL.1] at z
        have z := (nI_eq (b := 3) (by omega) (by omega)).mp z
        obtain ⟨k1, k2⟩ := hb z
        refine ⟨l, y, rfl, hL, z, And.intro (fun q => ?_) (fun q => ?_)⟩
        · have q := (f_d0 (by omega) (by omega)).mp q
          exact c1 (by unfold f_sqr; rw [decide_eq_true z, decide_eq_true q]; rfl)
        · have q : ¬ f_lsq l = f_ll l * f_ll l := fun e => q ((f_d0 (by omega) (by omega)).mpr e)
          exact c2 (by unfold f_sqr; rw [decide_eq_false q, Bool.and_false])
      · have z : ¬ M.1 100 17 = 3 := z
        rw [hL.1] at z
        have z : ¬ l.length = 3 := fun e => z (by rw [e]; rfl)
        exact c2 (by unfold f_sqr; rw [decide_eq_false z, Bool.false_and])
    · have h3 := (nI_eq (b := 2) (by omega) (by omega)).mp h3
      rw [if_neg (by omega), if_neg (by omega), if_pos h3] at hsp
      obtain ⟨c1, c2⟩ := bb _ hsp
      refine And.intro (fun z => ?_) (fun z => ?_)
      · have z : M.1 100 17 = 3 := z
        rw [hL.1] at z
        have z := (nI_eq (b := 3) (by omega) (by omega)).mp z
        obtain ⟨k1, k2⟩ := hb z
        refine ⟨l, y, rfl, hL, And.intro (fun q => ?_) (fun q => ?_)⟩
        · have q := f_b0.mp q
          exact c2 (by unfold f_blu; rw [q, Bool.false_and, Bool.and_false])
        · have q := f_b_nt q
          refine ⟨l, y, rfl, hL, z, And.intro (fun e => ?_) (fun e => ?_)⟩
          · have e := (f_d1 (by omega) (by omega)).mp e
            exact c2 (by unfold f_blu; rw [decide_eq_false (show ¬ f_lsq l < f_ll l * f_ll l by omega), Bool.and_false, Bool.and_false])
          · have e : ¬ f_ll l * f_ll l ≤ f_lsq l := fun x => e ((f_d1 (by omega) (by omega)).mpr x)
            exact c1 (by unfold f_blu; rw [decide_eq_true z, q, decide_eq_true (show f_lsq l < f_ll l * f_ll l by omega)]; rfl)
      · have z : ¬ M.1 100 17 = 3 := z
        rw [hL.1] at z
        have z : ¬ l.length = 3 := fun e => z (by rw [e]; rfl)
        exact c2 (by unfold f_blu; rw [decide_eq_false z, Bool.false_and])
    · have h4 := (nI_eq (b := 3) (by omega) (by omega)).mp h4
      rw [if_neg (by omega), if_neg (by omega), if_neg (by omega), if_pos h4] at hsp
      obtain ⟨c1, c2⟩ := bb _ hsp
      refine And.intro i1 (And.intro (fun z => ?_) (fun z => ?_))
      · have z : M.1 109 (M.1 100 17 - 1).toNatClampNeg < nI n := z
        rw [i2] at z
        have z := (nI_ltI (by omega) (by omega)).mp z
        exact c2 (decide_eq_false (by omega))
      · have z : ¬ M.1 109 (M.1 100 17 - 1).toNatClampNeg < nI n := z
        rw [i2] at z
        have z : ¬ f_ll l < n := fun q => z (nI_lt q (by omega))
        exact c1 (decide_eq_true (by omega))
    · have h5 := (nI_eq (b := 4) (by omega) (by omega)).mp h5
      rw [if_neg (by omega), if_neg (by omega), if_neg (by omega), if_neg (by omega), if_pos h5] at hsp
      obtain ⟨c1, c2⟩ := bb _ hsp
      refine And.intro j1 (And.intro (fun z => ?_) (fun z => ?_))
      · have z : M.1 109 (0 : Int32).toNatClampNeg < nI n := z
        rw [j2] at z
        have z := (nI_ltI (by omega) (by omega)).mp z
        exact c2 (decide_eq_false (by omega))
      · have z : ¬ M.1 109 (0 : Int32).toNatClampNeg < nI n := z
        rw [j2] at z
        have z : ¬ l.getD 0 0 < n := fun q => z (nI_lt q (by omega))
        exact c1 (decide_eq_true (by omega))
    · have h6 := (nI_eq (b := 5) (by omega) (by omega)).mp h6
      rw [if_neg (by omega), if_neg (by omega), if_neg (by omega), if_neg (by omega), if_neg (by omega), if_pos h6] at hsp
      obtain ⟨c1, c2⟩ := bb _ hsp
      refine ⟨l, y, 0, rfl, hL, rfl, by omega, Or.inl ⟨rfl, ?_⟩⟩
      refine And.intro (fun z => ?_) (fun z => ?_)
      · have z := f_b0.mp z
        exact c1 (by unfold f_unl; rw [z]; rfl)
      · have z := f_b_nt z
        exact c2 (by unfold f_unl; rw [z]; rfl)
    · have g0 : ¬ w = 0 := fun z => h (by rw [z]; rfl)
      have g1 : ¬ w = 1 := fun z => h2 (by rw [z]; rfl)
      have g2 : ¬ w = 2 := fun z => h3 (by rw [z]; rfl)
      have g3 : ¬ w = 3 := fun z => h4 (by rw [z]; rfl)
      have g4 : ¬ w = 4 := fun z => h5 (by rw [z]; rfl)
      have g5 : ¬ w = 5 := fun z => h6 (by rw [z]; rfl)
      rw [if_neg g0, if_neg g1, if_neg g2, if_neg g3, if_neg g4, if_neg g5] at hsp
      exact ⟨l, y, n, rfl, hL, rfl, hn, Or.inr ⟨rfl, And.intro (f_nar _ (f_bz _)) hsp⟩⟩
set_option maxRecDepth 20000 in
theorem m_y_shape : f_Meets 2 (kX12_shape S_in S_so S_su) (f_y1 p_shape) := by
  intro G As M R hsp X hX hW
  match As, hsp with
  | [.ref 100, .int w], ⟨s, hG, hS, hR, hsp⟩ =>
    subst hG
    unfold p_shape at hsp
    have hL2 := hS.L2
    have hL17 := hS.L17
    refine f_run_ok (stop := fun q => Nat.beq q 11) hX 40 _ _ _ _ _ ?_
    refine And.intro (fun h => ?_) (fun h => ?_)
    · have h : f_b (decide (0 ≤ w ∧ w ≤ 4)) = 0 := h
      have h := of_decide_eq_false (f_b0.mp h)
      rw [if_neg (fun z => h (by rw [z]; decide)), if_neg (fun z => h (by rw [z]; decide)), if_neg (fun z => h (by rw [z]; decide)), if_neg (fun z => h (by rw [z]; decide)), if_neg (fun z => h (by rw [z]; decide))] at hsp
      exact hsp M hR
    · have h : ¬ f_b (decide (0 ≤ w ∧ w ≤ 4)) = 0 := h
      have h := f_inY h
      obtain ⟨W, hWb, rfl⟩ := nI_of (x := w) (Int32.not_lt.mpr h.1)
      have w4 := (nI_leI (b := 4) hWb (by omega)).mp h.2
      have hne := f_shp_ne (L := s.1.2.2.1) (br := s.1.1 0 2) (by omega)
      have hsl : (f_shp s.1.2.2.1 (s.1.1 0 2)).length = (f_pc0 s.1.2.2.1 (s.1.1 0 2)).length := by
        show (f_srt _).length = _
        rw [f_srt_len, List.length_map]
        rfl
      refine f_run_ok (stop := fun q => Nat.beq q 22) hX 40 _ _ _ _ _ ?_
      refine And.intro (v9 7 (by decide)) ⟨s.1.2.2, s.1.1 0 2, rfl, hR.hr, by omega, hL17, hR.br, hS.br, fun M1 he1 hP hs => ?_⟩
      have r1 := hR.em he1 (by decide)
      have hL : f_LS M1 (f_shp s.1.2.2.1 (s.1.1 0 2)) s.1.2.2 := ⟨by rw [hsl]; exact hP.1, hne, by rw [hsl]; exact hP.2.1, hs, r1.hr, hL17⟩
      show X f_GM 22 [some (.ref 100), some (.int (nI W))] [] M1
      generalize f_shp s.1.2.2.1 (s.1.1 0 2) = l at *
      obtain ⟨i1, i2, i3⟩ := hL.la
      obtain ⟨j1, j2, j3⟩ := hL.at (i := 0) (z := 0) hL.2.1 rfl
      have fin : ∀ c : Bool, W < 3 → f_fit l s.1.2.2.1 W 0 = c → R f_GM (some (.int (f_b c))) M1 := by
        intro c hw hc
        rw [← hc]
        have : W = 0 ∨ W = 1 ∨ W = 2 := by omega
        rcases this with rfl | rfl | rfl
        · exact hsp M1 r1
        · exact hsp M1 r1
        · exact hsp M1 r1
      refine f_run_ok (stop := fun q => false) hX 40 _ _ _ _ _ ?_
      refine And.intro (fun h3 => ?_) (fun h3 => And.intro (fun h4 => ?_) (fun h4 => ?_))
      · have h3 := (nI_eq (b := 3) (by omega) (by omega)).mp h3
        subst h3
        exact And.intro i1 (f_fin (hsp M1 r1) (congrArg (fun z => some (Value.int z)) i2.symm) rfl)
      · have h4 := (nI_eq (b := 4) (by omega) (by omega)).mp h4
        subst h4
        exact And.intro j1 (f_fin (hsp M1 r1) (congrArg (fun z => some (Value.int z)) j2.symm) rfl)
      · have h3 : ¬ W = 3 := fun z => h3 (by rw [z]; rfl)
        have h4 : ¬ W = 4 := fun z => h4 (by rw [z]; rfl)
        refine ⟨l, s.1.2.2, W, 0, rfl, hL, rfl, by omega, rfl, by omega, ?_⟩
        refine And.intro (fun z => fin false (by omega) (f_b0.mp z)) (fun z => fin true (by omega) (f_b_nt z))
