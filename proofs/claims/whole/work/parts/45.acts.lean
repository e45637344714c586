/-! ===== Acts; small tests ===== -/
def S_isB : fSp := fun G As M R => match As with
  | [.ref 0, .int z] => G = f_GX ∧ R G (some (.int (f_b (decide (0 ≤ z ∧ z < M.1 1 0))))) M
  | _ => False
theorem m_isB : f_Meets 2 kX11_isBreaker S_isB := by
  intro G As M R hsp X hX hW
  match As, hsp with
  | [.ref 0, .int z], ⟨hG, hsp⟩ =>
    subst hG
    refine f_run_ok (stop := fun _ => false) hX 30 _ _ _ _ _ ?_
    refine And.intro (fun h => ?_) (fun h => ?_)
    · exact And.intro rfl (f_fin hsp (f_bf (decide_eq_false (fun q => Int32.not_lt.mpr q.1 h)) rfl) rfl)
    · refine And.intro (fun h2 => ?_) (fun h2 => ?_)
      · exact And.intro rfl (f_fin hsp (f_bf (decide_eq_false (fun q => Int32.not_lt.mpr h2 q.2)) rfl) rfl)
      · exact And.intro rfl (f_fin hsp (f_bt (decide_eq_true ⟨Int32.not_lt.mp h, Int32.not_le.mp h2⟩) rfl) rfl)
def S_isP : fSp := fun G As M R => match As with
  | [.int z] => R G (some (.int (f_b (decide (z = 0 ∨ z = 1))))) M
  | _ => False
theorem m_isP : f_Meets 1 kX11_isPart S_isP := by
  intro G As M R hsp X hX hW
  match As, hsp with
  | [.int z], hsp =>
    refine f_run_ok (stop := fun _ => false) hX 30 _ _ _ _ _ ?_
    refine And.intro (fun h => ?_) (fun h => ?_)
    · exact And.intro rfl (f_fin hsp (f_bt (decide_eq_true (Or.inl h)) rfl) rfl)
    · refine And.intro (fun h2 => ?_) (fun h2 => ?_)
      · exact And.intro rfl (f_fin hsp (f_bt (decide_eq_true (Or.inr h2)) rfl) rfl)
      · exact And.intro rfl (f_fin hsp (f_bf (decide_eq_false (fun q => q.elim h h2)) rfl) rfl)
def S_isL : fSp := fun G As M R => match As with
  | [.int z] => R G (some (.int (f_b (decide (1 ≤ z ∧ z ≤ 99))))) M
  | _ => False
theorem m_isL : f_Meets 1 kX11_isLength S_isL := by
  intro G As M R hsp X hX hW
  match As, hsp with
  | [.int z], hsp =>
    refine f_run_ok (stop := fun _ => false) hX 30 _ _ _ _ _ ?_
    refine And.intro (fun h => ?_) (fun h => ?_)
    · exact And.intro rfl (f_fin hsp (f_bf (decide_eq_false (fun q => Int32.not_lt.mpr q.1 h)) rfl) rfl)
    · refine And.intro (fun h2 => ?_) (fun h2 => ?_)
      · exact And.intro rfl (f_fin hsp (f_bf (decide_eq_false (fun q => Int32.not_lt.mpr q.2 h2)) rfl) rfl)
      · exact And.intro rfl (f_fin hsp (f_bt (decide_eq_true ⟨Int32.not_lt.mp h, Int32.not_lt.mp h2⟩) rfl) rfl)
def f_abv (k : Nat) : Nat := if k ≤ 3 then 0 else k - 3
def f_bod (a o : Nat) : Nat := ([1, 11, 0, 0, 0, 51, 0, 2, 0, 21, 0, 0, 0, 61, 3, 0, 0, 31, 41, 0, 0] : List Nat).getD (a * 7 + o) 0
def f_ownr (a o : Nat) : Nat := if f_bod a o ≠ 0 then o else if f_bod a (f_abv o) ≠ 0 then f_abv o else 0
theorem f_tA_at : ∀ c, c < 7 → c ≠ 0 → f_tABOVE c = nI (f_abv c) := by decide +kernel
theorem f_tB_at : ∀ a, a < 3 → ∀ o, o < 7 → f_tBODIES (a * 7 + o) = nI (f_bod a o) := by decide +kernel
theorem f_bod_lt : ∀ a, a < 3 → ∀ o, o < 7 → f_bod a o < 100 := by decide +kernel
theorem f_ownr_lt : ∀ a, a < 3 → ∀ o, o < 7 → f_ownr a o < 7 := by decide +kernel
theorem f_ownr_0 : ∀ a, a < 3 → f_ownr a 0 = 0 := by decide +kernel
theorem f_ownr_up : ∀ a, a < 3 → ∀ o, o < 7 → f_bod a o = 0 → f_ownr a (f_abv o) = f_ownr a o := by decide +kernel
theorem f_abv_lt {o : Nat} (h : o < 7) : f_abv o < 7 := by unfold f_abv; split <;> omega
def S_own : fSp := fun G As M R => match As with
  | [.int za, .int zk] => ∃ a k : Nat, za = nI a ∧ a < 3 ∧ zk = nI k ∧ k < 7 ∧ R G (some (.int (nI (f_ownr a k)))) M
  | _ => False
set_option maxRecDepth 20000 in
theorem m_own : f_Meets 4 (kX0_ownerOf S_at) S_own := by
  intro G As M R hsp X hX hW
  match As, hsp with
  | [.int za, .int zk], ⟨a, k, hza, ha, hzk, hk, hsp⟩ =>
    subst hza; subst hzk
    have loop : ∀ (m o t : Nat), (if o = 0 then 0 else if o ≤ 3 then 1 else 2) ≤ m → t + m = 2 → o < 7 → f_ownr a o = f_ownr a k → X G 4 [some (.int (nI a)), some (.int (nI k)), some (.int (nI o)), some (.int (nI t))] [] M := by
      intro m
      induction m with
      | zero =>
        intro o t ho ht ho7 hv
        have ho : o = 0 := by
          by_cases e : o = 0
          · exact e
          · rw [if_neg e] at ho; split at ho <;> omega
        subst ho
        refine f_run_ok (stop := fun _ => false) hX 20 _ _ _ _ _ ?_
        refine And.intro (fun h => absurd ((nI_leI (a := 7) (by omega) (by omega)).mp h) (by omega)) (fun h => ?_)
        refine And.intro (fun h2 => ?_) (fun h2 => absurd (show nI 0 ≤ 0 by decide) h2)
        exact f_fin hsp (by rw [← hv, f_ownr_0 a ha]; rfl) rfl
      | succ m ih =>
        intro o t ho ht ho7 hv
        by_cases h0 : o = 0
        · subst h0
          refine f_run_ok (stop := fun _ => false) hX 20 _ _ _ _ _ ?_
          refine And.intro (fun h => absurd ((nI_leI (a := 7) (by omega) (by omega)).mp h) (by omega)) (fun h => ?_)
          refine And.intro (fun h2 => ?_) (fun h2 => absurd (show nI 0 ≤ 0 by decide) h2)
          exact f_fin hsp (by rw [← hv, f_ownr_0 a ha]; rfl) rfl
        · have hbl := f_bod_lt a ha o ho7
          have ea : f_at (21, f_tBODIES) (nI a * 7 + nI o) = nI (f_bod a o) := by
            rw [show (nI a * 7 + nI o : Int32) = nI (a * 7 + o) by rw [← nI_add, ← pk_mul]; rfl, f_at_in (t := (21, f_tBODIES)) (by show a * 7 + o < 21; omega) (by show 21 < 2 ^ 31; omega)]
            exact f_tB_at a ha o ho7
          have eb : f_at (7, f_tABOVE) (nI o) = nI (f_abv o) := by
            rw [f_at_in (t := (7, f_tABOVE)) ho7 (by show 7 < 2 ^ 31; omega)]
            exact f_tA_at o ho7 h0
          refine f_run_ok (stop := fun q => Nat.beq q 4) hX 40 _ _ _ _ _ ?_
          refine And.intro (fun h => absurd ((nI_leI (a := 7) (by omega) (by omega)).mp h) (by omega)) (fun h => ?_)
          refine And.intro (fun h2 => absurd h2 (nI_nle (by omega) (by omega))) (fun h2 => ?_)
          refine And.intro (fun h3 => ?_) (fun h3 => ?_)
          · have h3 : f_at (21, f_tBODIES) (nI a * 7 + nI o) = 0 := h3
            rw [ea] at h3
            have h3 : f_bod a o = 0 := (nI_eq (b := 0) (by omega) (by omega)).mp h3
            have q := ih (f_abv o) (t + 1) (by
              rw [if_neg h0] at ho
              unfold f_abv
              split
              · rename_i hc; simp
              · rename_i hc
                rw [if_neg hc] at ho
                rw [if_neg (by omega), if_pos (by omega)]; omega) (by omega) (f_abv_lt ho7) (by rw [f_ownr_up a ha o ho7 h3]; exact hv)
            rw [nI_succ, ← eb] at q
            exact q
          · have h3 : ¬ f_at (21, f_tBODIES) (nI a * 7 + nI o) = 0 := h3
            rw [ea] at h3
            have h3 : f_bod a o ≠ 0 := fun z => h3 (by rw [z]; rfl)
            exact f_fin hsp (by rw [← hv]; unfold f_ownr; rw [if_pos h3]) rfl
    refine f_run_ok (stop := fun q => Nat.beq q 4) hX 10 _ _ _ _ _ ?_
    exact loop 2 k 0 (by split <;> (try split) <;> omega) rfl hk rfl
def f_rn (kd : Nat) (v b : Int32) : Nat → Nat → Nat → Int32 → Int32 × List Nat
  | 0, _, _, _ => (0, [])
  | d + 1, a, fr, x =>
    if f_bod a (f_ownr a fr) = 1 then (x + b, [1])
    else if f_bod a (f_ownr a fr) = 2 then ((f_rn kd v b d 0 kd x).1 - v, 2 :: (f_rn kd v b d 0 kd x).2)
    else if f_bod a (f_ownr a fr) = 3 then ((f_rn kd v b d 1 kd x).1 * 2, 3 :: (f_rn kd v b d 1 kd x).2)
    else if f_bod a (f_ownr a fr) = 11 then ((f_rn kd v b d 0 (f_abv (f_ownr a fr)) (x * 3)).1, 11 :: (f_rn kd v b d 0 (f_abv (f_ownr a fr)) (x * 3)).2)
    else if f_bod a (f_ownr a fr) = 21 then (-(f_rn kd v b d 1 (f_abv (f_ownr a fr)) x).1, 21 :: (f_rn kd v b d 1 (f_abv (f_ownr a fr)) x).2)
    else if f_bod a (f_ownr a fr) = 31 then ((f_rn kd v b d 2 (f_abv (f_ownr a fr)) x).1 ^^^ 7, 31 :: (f_rn kd v b d 2 (f_abv (f_ownr a fr)) x).2)
    else if f_bod a (f_ownr a fr) = 41 then ((f_rn kd v b d 2 (f_abv (f_ownr a fr)) (x - 1)).1 + (f_rn kd v b d 0 kd 2).1, 41 :: ((f_rn kd v b d 2 (f_abv (f_ownr a fr)) (x - 1)).2 ++ (f_rn kd v b d 0 kd 2).2))
    else if f_bod a (f_ownr a fr) = 51 then ((f_rn kd v b d 0 (f_abv (f_ownr a fr)) x).1 ^^^ b, 51 :: (f_rn kd v b d 0 (f_abv (f_ownr a fr)) x).2)
    else if f_bod a (f_ownr a fr) = 61 then ((f_rn kd v b d 1 (f_abv (f_ownr a fr)) x).1 + v, 61 :: (f_rn kd v b d 1 (f_abv (f_ownr a fr)) x).2)
    else (0, [f_bod a (f_ownr a fr)])
def f_TR (M : fMem) (tr : List Nat) : Prop := M.1 52 0 = nI tr.length ∧ ∀ i y, i < 20 → tr[i]? = some y → M.1 53 i = nI y
def f_lk (x : Int32) : List (Int32 × Nat) → Nat → Nat
  | [], d => d
  | (v, q) :: l, d => if x = v then q else f_lk x l d
theorem f_swg_lk {x : Int32} {k : Nat → Prop} : ∀ (cs : List (Int32 × Nat)) (d : Nat), k (f_lk x cs d) → f_swg x cs d k := by
  intro cs
  induction cs with
  | nil => intro d h; exact h
  | cons a l ih =>
    intro d h
    obtain ⟨v, q⟩ := a
    refine And.intro (fun e => ?_) (fun e => ?_)
    · have h : k (if x = v then q else f_lk x l d) := h
      rw [if_pos e] at h
      exact h
    · have h : k (if x = v then q else f_lk x l d) := h
      rw [if_neg e] at h
      exact ih d h
def S_run (d : Nat) : fSp := fun G As M R => match As with
  | [.ref 52, .int za, .int zf, .int x, .int zd] => ∃ (kd : Nat) (v b : Int32) (a fr dep : Nat) (tr : List Nat), G = f_GX ∧ za = nI a ∧ a < 3 ∧ zf = nI fr ∧ fr < 7 ∧ zd = nI dep ∧ dep + d = 41 ∧ kd < 7 ∧ M.1 52 2 = b ∧ M.1 52 3 = nI kd ∧ M.1 52 4 = v ∧ f_TR M tr ∧ tr.length + (f_rn kd v b d a fr x).2.length < 1000 ∧ (∀ M', f_ex [52, 53] [] M M' → M'.1 52 2 = b → M'.1 52 3 = nI kd → M'.1 52 4 = v → f_TR M' (tr ++ (f_rn kd v b d a fr x).2) → R G (some (.int (f_rn kd v b d a fr x).1)) M')
  | _ => False
theorem f_TR.up {M : fMem} {tr : List Nat} (h : f_TR M tr) (hl : tr.length < 1000) (w : Nat) : f_TR (f_up (f_pt 20 53 (M.1 52 0) (nI w) M).1 52 0 ((f_pt 20 53 (M.1 52 0) (nI w) M).1 52 0 + 1), (f_pt 20 53 (M.1 52 0) (nI w) M).2) (tr ++ [w]) ∧ f_ex [52, 53] [] M (f_up (f_pt 20 53 (M.1 52 0) (nI w) M).1 52 0 ((f_pt 20 53 (M.1 52 0) (nI w) M).1 52 0 + 1), (f_pt 20 53 (M.1 52 0) (nI w) M).2) ∧ ∀ k, k ≠ 0 → f_up (f_pt 20 53 (M.1 52 0) (nI w) M).1 52 0 ((f_pt 20 53 (M.1 52 0) (nI w) M).1 52 0 + 1) 52 k = M.1 52 k := by
  have e52 : (f_pt 20 53 (M.1 52 0) (nI w) M).1 52 = M.1 52 := by
    unfold f_pt; split
    · show f_up M.1 53 (M.1 52 0).toNatClampNeg (nI w) 52 = _
      rw [f_up_ne (by decide)]
    · rfl
  have he : f_ex [52, 53] [] M (f_pt 20 53 (M.1 52 0) (nI w) M) := f_ex.rf.pt (by decide)
  refine ⟨⟨?_, fun i y hi hy => ?_⟩, he.up (by decide), fun k hk => ?_⟩
  · show (if 52 = 52 then (if 0 = 0 then (f_pt 20 53 (M.1 52 0) (nI w) M).1 52 0 + 1 else (f_pt 20 53 (M.1 52 0) (nI w) M).1 52 0) else (f_pt 20 53 (M.1 52 0) (nI w) M).1 52 0) = _
    rw [if_pos rfl, if_pos rfl, e52, h.1, List.length_append]
    exact (nI_succ _).symm
  · show f_up (f_pt 20 53 (M.1 52 0) (nI w) M).1 52 0 ((f_pt 20 53 (M.1 52 0) (nI w) M).1 52 0 + 1) 53 i = _
    rw [f_up_ne (by decide), h.1]
    by_cases hl20 : tr.length < 20
    · rw [f_pt_in hl20 (by decide)]
      show (if 53 = 53 then (if i = tr.length then nI w else M.1 53 i) else M.1 53 i) = _
      rw [if_pos rfl]
      by_cases e : i = tr.length
      · rw [if_pos e]
        rw [e, List.getElem?_append_right (Nat.le_refl _), Nat.sub_self] at hy
        cases hy; rfl
      · have hil : i < tr.length := by
          have := (List.getElem?_eq_some_iff.mp hy).1
          rw [List.length_append] at this
          have h1 : ([w] : List Nat).length = 1 := rfl
          omega
        rw [if_neg e]
        rw [List.getElem?_append_left hil] at hy
        exact h.2 i y hi hy
    · have e1 : f_pt 20 53 (nI tr.length) (nI w) M = M := by
        unfold f_pt
        rw [if_neg]
        intro q
        exact absurd ((nI_ltI (b := 20) (by omega) (by omega)).mp q.2) (by omega)
      rw [e1]
      rw [List.getElem?_append_left (by omega)] at hy
      exact h.2 i y hi hy
  · show (if 52 = 52 then (if k = 0 then (f_pt 20 53 (M.1 52 0) (nI w) M).1 52 0 + 1 else (f_pt 20 53 (M.1 52 0) (nI w) M).1 52 k) else (f_pt 20 53 (M.1 52 0) (nI w) M).1 52 k) = _
    rw [if_pos rfl, if_neg hk, e52]
theorem f_ownr_nz : ∀ a, a < 3 → ∀ o, o < 7 → (f_bod a (f_ownr a o) = 1 ∨ f_bod a (f_ownr a o) = 2 ∨ f_bod a (f_ownr a o) = 3) ∨ (f_ownr a o ≠ 0 ∧ (f_bod a (f_ownr a o) = 11 ∨ f_bod a (f_ownr a o) = 21 ∨ f_bod a (f_ownr a o) = 31 ∨ f_bod a (f_ownr a o) = 41 ∨ f_bod a (f_ownr a o) = 51 ∨ f_bod a (f_ownr a o) = 61)) := by decide +kernel
set_option maxRecDepth 20000 in
theorem m_run (d : Nat) (sp : fSp) (hs : ∀ e, d = e + 1 → sp = S_run e) : f_Meets 8 (kX0_run S_own S_at S_put sp) (S_run d) := by
  intro G As M R hsp X hX hW
  match As, hsp with
  | [.ref 52, .int za, .int zf, .int x, .int zd], ⟨kd, v, b, a, fr, dep, tr, hG, hza, ha, hzf, hfr, hzd, hdep, hkd, hb, hk, hv, htr, hlen, hsp⟩ =>
    subst hG; subst hza; subst hzf; subst hzd
    cases d with
    | zero =>
      refine f_run_ok (stop := fun q => false) hX 10 _ _ _ _ _ ?_
      refine And.intro (fun h => absurd ((nI_leI (b := 40) (by omega) (by omega)).mp h) (by omega)) (fun h => ?_)
      exact f_fin (hsp M f_ex.rf hb hk hv (by show f_TR M (tr ++ []); rw [List.append_nil]; exact htr)) rfl rfl
    | succ d =>
      have hsd := hs d rfl
      subst hsd
      have ho7 := f_ownr_lt a ha fr hfr
      have hnz := f_ownr_nz a ha fr hfr
      simp only [f_rn] at hlen hsp
      generalize hown : f_ownr a fr = o at *
      generalize hbod : f_bod a o = w at *
      have ew : f_at (21, f_tBODIES) (nI a * 7 + nI o) = nI w := by
        rw [show (nI a * 7 + nI o : Int32) = nI (a * 7 + o) by rw [← nI_add, ← pk_mul]; rfl, f_at_in (t := (21, f_tBODIES)) (by show a * 7 + o < 21; omega) (by show 21 < 2 ^ 31; omega), ← hbod]
        exact f_tB_at a ha o ho7
      obtain ⟨t1, t2, t3⟩ := htr.up (by omega) w
      refine f_run_ok (stop := fun q => Nat.beq q 66) hX 60 _ _ _ _ _ ?_
      refine And.intro (fun h => ?_) (fun h => absurd (nI_le (b := 40) (by omega) (by omega)) h)
      refine ⟨a, fr, rfl, ha, rfl, hfr, ?_⟩
      rw [hown]
      show X f_GX 66 [some (.ref 52), some (.int (nI a)), some (.int (nI fr)), some (.int x), some (.int (nI dep)), some (.int (nI o)), some (.int (f_at (7, f_tABOVE) (nI o))), some (.int (f_at (21, f_tBODIES) (nI a * 7 + nI o)))] [.int (f_at (21, f_tBODIES) (nI a * 7 + nI o))] (f_up (f_pt 20 53 (M.1 52 0) (f_at (21, f_tBODIES) (nI a * 7 + nI o)) M).1 52 0 ((f_pt 20 53 (M.1 52 0) (f_at (21, f_tBODIES) (nI a * 7 + nI o)) M).1 52 0 + 1), (f_pt 20 53 (M.1 52 0) (f_at (21, f_tBODIES) (nI a * 7 + nI o)) M).2)
      rw [ew]
      have b1 : f_up (f_pt 20 53 (M.1 52 0) (nI w) M).1 52 0 ((f_pt 20 53 (M.1 52 0) (nI w) M).1 52 0 + 1) 52 2 = b := by rw [t3 2 (by decide)]; exact hb
      have k1 : f_up (f_pt 20 53 (M.1 52 0) (nI w) M).1 52 0 ((f_pt 20 53 (M.1 52 0) (nI w) M).1 52 0 + 1) 52 3 = nI kd := by rw [t3 3 (by decide)]; exact hk
      have v1 : f_up (f_pt 20 53 (M.1 52 0) (nI w) M).1 52 0 ((f_pt 20 53 (M.1 52 0) (nI w) M).1 52 0 + 1) 52 4 = v := by rw [t3 4 (by decide)]; exact hv
      generalize hM1 : ((f_up (f_pt 20 53 (M.1 52 0) (nI w) M).1 52 0 ((f_pt 20 53 (M.1 52 0) (nI w) M).1 52 0 + 1), (f_pt 20 53 (M.1 52 0) (nI w) M).2) : fMem) = M1 at t1 t2 ⊢
      have b2 : M1.1 52 2 = b := by rw [← hM1]; exact b1
      have k2 : M1.1 52 3 = nI kd := by rw [← hM1]; exact k1
      have v2 : M1.1 52 4 = v := by rw [← hM1]; exact v1
      have hd1 : nI dep + 1 = nI (dep + 1) := (nI_succ dep).symm
      have sw : ∀ q, f_lk (nI w) [(1, 148), (2, 155), (3, 175), (11, 192), (21, 207), (31, 221), (41, 237), (51, 267), (61, 285)] 303 = q → X f_GX q [some (.ref 52), some (.int (nI a)), some (.int (nI fr)), some (.int x), some (.int (nI dep)), some (.int (nI o)), some (.int (f_at (7, f_tABOVE) (nI o))), some (.int (nI w))] [] M1 → X f_GX 66 [some (.ref 52), some (.int (nI a)), some (.int (nI fr)), some (.int x), some (.int (nI dep)), some (.int (nI o)), some (.int (f_at (7, f_tABOVE) (nI o))), some (.int (nI w))] [.int (nI w)] M1 := by
        intro q hq hx
        refine f_run_ok (stop := fun q => true) hX 1 _ _ _ _ _ ?_
        refine f_swg_lk _ _ ?_
        rw [hq]
        exact hx
      have lt1 : (tr ++ [w]).length = tr.length + 1 := by rw [List.length_append]; rfl
      rcases hnz with hnz | ⟨ho0, hnz⟩
      · rcases hnz with h | h | h
        · subst h
          simp only [if_true] at hsp hlen
          refine sw 148 (by decide) ?_
          refine f_run_ok (stop := fun q => false) hX 10 _ _ _ _ _ ?_
          refine f_fin (hsp M1 t2 b2 k2 v2 t1) ?_ rfl
          show some (Value.int (x + b)) = some (Value.int (x + M1.1 52 2))
          rw [b2]
        · subst h
          simp only [if_true, show ¬ (2 = 1) by decide, if_false] at hsp hlen
          refine sw 155 (by decide) ?_
          refine f_run_ok (stop := fun q => false) hX 20 _ _ _ _ _ ?_
          refine ⟨kd, v, b, 0, kd, dep + 1, _, rfl, rfl, by decide, k2, hkd, hd1, by omega, hkd, b2, k2, v2, t1, (by simp at hlen ⊢; omega), fun M' he h2 h3 h4 h5 => ?_⟩
          refine f_fin (hsp M' (t2.tr he) h2 h3 h4 (by rw [List.append_assoc] at h5; exact h5)) ?_ rfl
          show some (Value.int (_ - v)) = some (Value.int (_ - M'.1 52 4))
          rw [h4]
        · subst h
          simp only [if_true, show ¬ (3 = 1) by decide, show ¬ (3 = 2) by decide, if_false] at hsp hlen
          refine sw 175 (by decide) ?_
          refine f_run_ok (stop := fun q => false) hX 20 _ _ _ _ _ ?_
          refine ⟨kd, v, b, 1, kd, dep + 1, _, rfl, rfl, by decide, k2, hkd, hd1, by omega, hkd, b2, k2, v2, t1, (by simp at hlen ⊢; omega), fun M' he h2 h3 h4 h5 => ?_⟩
          exact f_fin (hsp M' (t2.tr he) h2 h3 h4 (by rw [List.append_assoc] at h5; exact h5)) rfl rfl
      · have eo : f_at (7, f_tABOVE) (nI o) = nI (f_abv o) := by
          rw [f_at_in (t := (7, f_tABOVE)) ho7 (by show 7 < 2 ^ 31; omega)]
          exact f_tA_at o ho7 ho0
        rw [eo] at sw ⊢
        have hab := f_abv_lt ho7
        rcases hnz with h | h | h | h | h | h
        · subst h
          simp only [if_true, show ¬ (11 = 1) by decide, show ¬ (11 = 2) by decide, show ¬ (11 = 3) by decide, if_false] at hsp hlen
          refine sw 192 (by decide) ?_
          refine f_run_ok (stop := fun q => false) hX 20 _ _ _ _ _ ?_
          refine ⟨kd, v, b, 0, (f_abv o), dep + 1, _, rfl, rfl, by decide, rfl, hab, hd1, by omega, hkd, b2, k2, v2, t1, (by simp at hlen ⊢; omega), fun M' he h2 h3 h4 h5 => ?_⟩
          exact f_fin (hsp M' (t2.tr he) h2 h3 h4 (by rw [List.append_assoc] at h5; exact h5)) rfl rfl
        · subst h
          simp only [if_true, show ¬ (21 = 1) by decide, show ¬ (21 = 2) by decide, show ¬ (21 = 3) by decide, show ¬ (21 = 11) by decide, if_false] at hsp hlen
          refine sw 207 (by decide) ?_
          refine f_run_ok (stop := fun q => false) hX 20 _ _ _ _ _ ?_
          refine ⟨kd, v, b, 1, (f_abv o), dep + 1, _, rfl, rfl, by decide, rfl, hab, hd1, by omega, hkd, b2, k2, v2, t1, (by simp at hlen ⊢; omega), fun M' he h2 h3 h4 h5 => ?_⟩
          exact f_fin (hsp M' (t2.tr he) h2 h3 h4 (by rw [List.append_assoc] at h5; exact h5)) rfl rfl
        · subst h
          simp only [if_true, show ¬ (31 = 1) by decide, show ¬ (31 = 2) by decide, show ¬ (31 = 3) by decide, show ¬ (31 = 11) by decide, show ¬ (31 = 21) by decide, if_false] at hsp hlen
          refine sw 221 (by decide) ?_
          refine f_run_ok (stop := fun q => false) hX 20 _ _ _ _ _ ?_
          refine ⟨kd, v, b, 2, (f_abv o), dep + 1, _, rfl, rfl, by decide, rfl, hab, hd1, by omega, hkd, b2, k2, v2, t1, (by simp at hlen ⊢; omega), fun M' he h2 h3 h4 h5 => ?_⟩
          exact f_fin (hsp M' (t2.tr he) h2 h3 h4 (by rw [List.append_assoc] at h5; exact h5)) rfl rfl
        · subst h
          simp only [if_true, show ¬ (41 = 1) by decide, show ¬ (41 = 2) by decide, show ¬ (41 = 3) by decide, show ¬ (41 = 11) by decide, show ¬ (41 = 21) by decide, show ¬ (41 = 31) by decide, if_false] at hsp hlen
          refine sw 237 (by decide) ?_
          refine f_run_ok (stop := fun q => false) hX 30 _ _ _ _ _ ?_
          refine ⟨kd, v, b, 2, (f_abv o), dep + 1, _, rfl, rfl, by decide, rfl, hab, hd1, by omega, hkd, b2, k2, v2, t1, (by simp at hlen ⊢; omega), fun M' he h2 h3 h4 h5 => ?_⟩
          refine ⟨kd, v, b, 0, kd, dep + 1, _, rfl, rfl, by decide, h3, hkd, hd1, by omega, hkd, h2, h3, h4, h5, (by simp at hlen ⊢; omega), fun M'' he' g2 g3 g4 g5 => ?_⟩
          exact f_fin (hsp M'' ((t2.tr he).tr he') g2 g3 g4 (by rw [List.append_assoc, List.append_assoc] at g5; exact g5)) rfl rfl
        · subst h
          simp only [if_true, show ¬ (51 = 1) by decide, show ¬ (51 = 2) by decide, show ¬ (51 = 3) by decide, show ¬ (51 = 11) by decide, show ¬ (51 = 21) by decide, show ¬ (51 = 31) by decide, show ¬ (51 = 41) by decide, if_false] at hsp hlen
          refine sw 267 (by decide) ?_
          refine f_run_ok (stop := fun q => false) hX 20 _ _ _ _ _ ?_
          refine ⟨kd, v, b, 0, (f_abv o), dep + 1, _, rfl, rfl, by decide, rfl, hab, hd1, by omega, hkd, b2, k2, v2, t1, (by simp at hlen ⊢; omega), fun M' he h2 h3 h4 h5 => ?_⟩
          refine f_fin (hsp M' (t2.tr he) h2 h3 h4 (by rw [List.append_assoc] at h5; exact h5)) ?_ rfl
          show some (Value.int (_ ^^^ b)) = some (Value.int (_ ^^^ M'.1 52 2))
          rw [h2]
        · subst h
          simp only [if_true, show ¬ (61 = 1) by decide, show ¬ (61 = 2) by decide, show ¬ (61 = 3) by decide, show ¬ (61 = 11) by decide, show ¬ (61 = 21) by decide, show ¬ (61 = 31) by decide, show ¬ (61 = 41) by decide, show ¬ (61 = 51) by decide, if_false] at hsp hlen
          refine sw 285 (by decide) ?_
          refine f_run_ok (stop := fun q => false) hX 20 _ _ _ _ _ ?_
          refine ⟨kd, v, b, 1, (f_abv o), dep + 1, _, rfl, rfl, by decide, rfl, hab, hd1, by omega, hkd, b2, k2, v2, t1, (by simp at hlen ⊢; omega), fun M' he h2 h3 h4 h5 => ?_⟩
          refine f_fin (hsp M' (t2.tr he) h2 h3 h4 (by rw [List.append_assoc] at h5; exact h5)) ?_ rfl
          show some (Value.int (_ + v)) = some (Value.int (_ + M'.1 52 4))
          rw [h4]
