/-! ===== what is read can be worked out; copies ===== -/
def f_eff (m : Nat) (ts : List Nat) : Prop := ∀ d rest, d + m ≤ 60 → f_wf rest (d + 1) → f_wf (ts ++ rest) d
def f_outs (m : Nat) (F : Nat → List Nat → fRs) : Prop := ∀ p C, (F p C).1 = true → ∃ ts, (F p C).2.2 = C ++ ts ∧ f_eff m ts
theorem f_ptst_outs (T : Nat → Nat) (n : Nat) : f_outs 1 (f_ptst T n) := by
  intro p C h
  unfold f_ptst at h ⊢
  cases h1 : f_let T n p with
  | none => rw [h1] at h; exact absurd h Bool.false_ne_true
  | some a =>
    rw [h1] at h
    have a1 := f_let_ok h1
    cases h2 : f_cm T n (p + 1) with
    | none => simp only [h2] at h; exact absurd h Bool.false_ne_true
    | some b =>
      have a2 := f_cm_ok h2
      cases h3 : f_num T n (p + 2) with
      | none => simp only [h2, h3] at h; exact absurd h Bool.false_ne_true
      | some r =>
        obtain ⟨v, q⟩ := r
        have a3 := f_num_ok h3
        refine ⟨[(a * 3 + b) * 100 + v], by simp only [h2, h3], fun d rest hd hr => ?_⟩
        show (if (a * 3 + b) * 100 + v < 2000 then d + 1 ≤ 60 ∧ f_wf rest (d + 1) else _)
        rw [if_pos (by omega)]
        exact ⟨hd, hr⟩
theorem f_rep_outs {T : Nat → Nat} {n ch op m : Nat} {sub : Nat → List Nat → fRs} (ho : 2001 ≤ op) (hs : f_outs m sub) : ∀ k p C, (f_rep T n ch op sub k p C).1 = true → ∃ ts, (f_rep T n ch op sub k p C).2.2 = C ++ ts ∧ ∀ d rest, d + 1 + m ≤ 60 → f_wf rest (d + 1) → f_wf (ts ++ rest) (d + 1) := by
  intro k
  induction k with
  | zero => intro p C _; exact ⟨[], (List.append_nil C).symm, fun d rest _ h => h⟩
  | succ k ih =>
    intro p C h
    unfold f_rep at h ⊢
    by_cases h1 : f_is T n p ch = true
    · rw [if_pos h1] at h ⊢
      by_cases h2 : (sub (p + 1) C).1 = true
      · rw [if_pos h2] at h ⊢
        obtain ⟨t1, e1, g1⟩ := hs (p + 1) C h2
        obtain ⟨t2, e2, g2⟩ := ih _ _ h
        refine ⟨t1 ++ [op] ++ t2, by rw [e2, e1]; simp, fun d rest hd hr => ?_⟩
        have q := g1 (d + 1) ([op] ++ (t2 ++ rest)) hd (by
          show (if op < 2000 then _ else if op = 2000 then _ else 2 ≤ d + 1 + 1 ∧ f_wf (t2 ++ rest) (d + 1 + 1 - 1))
          rw [if_neg (by omega), if_neg (by omega)]
          exact ⟨by omega, g2 d rest hd hr⟩)
        have e : t1 ++ [op] ++ t2 ++ rest = t1 ++ ([op] ++ (t2 ++ rest)) := by simp
        rw [e]
        exact q
      · rw [if_neg h2] at h
        exact absurd h h2
    · rw [if_neg h1]
      exact ⟨[], (List.append_nil C).symm, fun d rest _ h => h⟩
theorem f_ser_outs {T : Nat → Nat} {n ch op m : Nat} {sub : Nat → List Nat → fRs} (ho : 2001 ≤ op) (hs : f_outs m sub) : f_outs (m + 1) (f_ser T n ch op sub) := by
  intro p C h
  unfold f_ser at h ⊢
  by_cases h2 : (sub p C).1 = true
  · rw [if_pos h2] at h ⊢
    obtain ⟨t1, e1, g1⟩ := hs p C h2
    obtain ⟨t2, e2, g2⟩ := f_rep_outs ho hs 100 _ _ h
    refine ⟨t1 ++ t2, by rw [e2, e1]; simp, fun d rest hd hr => ?_⟩
    rw [List.append_assoc]
    exact g1 d (t2 ++ rest) (by omega) (g2 d rest (by omega) hr)
  · rw [if_neg h2] at h
    exact absurd h h2
theorem f_eff_mono {m k : Nat} {ts : List Nat} (h : f_eff m ts) (hk : m ≤ k) : f_eff k ts := fun d rest hd hr => h d rest (by omega) hr
theorem f_pf_outs (T : Nat → Nat) (n : Nat) : ∀ o, f_outs (1 + 2 * o) (f_pf T n o) := by
  intro o
  induction o with
  | zero =>
    intro p C h
    unfold f_pf at h ⊢
    split at h
    · exact absurd h Bool.false_ne_true
    · rename_i hc
      rw [if_neg hc]
      exact f_ptst_outs T n p C h
  | succ o ih =>
    intro p C h
    have hg : f_outs (1 + 2 * o + 1 + 1) (f_pe T n (f_pf T n o)) := f_ser_outs (by omega) (f_ser_outs (by omega) ih)
    unfold f_pf at h ⊢
    by_cases h1 : f_is T n p 40 = true
    · rw [if_pos h1] at h ⊢
      by_cases h2 : (f_pe T n (f_pf T n o) (p + 1) C).1 = true
      · rw [if_pos h2] at h ⊢
        by_cases h3 : f_is T n (f_pe T n (f_pf T n o) (p + 1) C).2.1 41 = true
        · rw [if_pos h3]
          obtain ⟨ts, e, g⟩ := hg (p + 1) C h2
          exact ⟨ts, e, f_eff_mono g (by omega)⟩
        · rw [if_neg h3] at h
          exact absurd h Bool.false_ne_true
      · rw [if_neg h2] at h
        exact absurd h h2
    · rw [if_neg h1] at h ⊢
      by_cases h4 : f_is T n p 33 = true
      · rw [if_pos h4] at h ⊢
        by_cases h2 : (f_pf T n o (p + 1) C).1 = true
        · rw [if_pos h2]
          obtain ⟨ts, e, g⟩ := ih (p + 1) C h2
          refine ⟨ts ++ [2000], by show (f_pf T n o (p + 1) C).2.2 ++ [2000] = _; rw [e, List.append_assoc], fun d rest hd hr => ?_⟩
          rw [List.append_assoc]
          refine g d ([2000] ++ rest) (by omega) ?_
          show (if 2000 < 2000 then _ else if 2000 = 2000 then 1 ≤ d + 1 ∧ f_wf rest (d + 1) else _)
          rw [if_neg (by omega), if_pos rfl]
          exact ⟨by omega, hr⟩
        · rw [if_neg h2] at h
          exact absurd h h2
      · rw [if_neg h4] at h ⊢
        obtain ⟨ts, e, g⟩ := f_ptst_outs T n p C h
        exact ⟨ts, e, f_eff_mono g (by omega)⟩
theorem f_pe_wf (T : Nat → Nat) (n p : Nat) (h : (f_pe T n (f_pf T n 5) p []).1 = true) : f_wf (f_pe T n (f_pf T n 5) p []).2.2 0 := by
  have hg : f_outs 13 (f_pe T n (f_pf T n 5)) := f_ser_outs (m := 12) (by omega) (f_ser_outs (m := 11) (by omega) (f_pf_outs T n 5))
  obtain ⟨ts, e, g⟩ := hg p [] h
  rw [e]
  have := g 0 [] (by omega) rfl
  rw [List.append_nil] at this
  exact this
/-- the rules of a yard are as they must be -/
def f_rok (rs : List fRl) : Prop := ∀ q ∈ rs, q.2.1 < 100 ∧ f_wf q.2.2 0
def f_yok (y : fYd) : Prop := 2 ≤ y.1 ∧ y.1 ≤ 17 ∧ 1 ≤ y.2.1 ∧ y.2.1 ≤ 3 ∧ y.2.2.length ≤ 10 ∧ f_beg y.2.2 y.2.2.length ≤ 100 ∧ f_rok y.2.2
theorem f_keep_ok {w v : Nat} {C : List Nat} {y : fYd} (hv : v < 100) (hC : f_wf C 0 ∨ ¬ (w = 104 ∨ w = 112)) (h : 2 ≤ y.1 ∧ y.1 ≤ 17 ∧ 1 ≤ y.2.1 ∧ y.2.1 ≤ 3 ∧ f_rok y.2.2) : 2 ≤ (f_keep w v C y).1 ∧ (f_keep w v C y).1 ≤ 17 ∧ 1 ≤ (f_keep w v C y).2.1 ∧ (f_keep w v C y).2.1 ≤ 3 ∧ f_rok (f_keep w v C y).2.2 := by
  obtain ⟨a, b, c, d, e⟩ := h
  unfold f_keep
  split
  · rename_i hw
    refine ⟨a, b, c, d, fun q hq => ?_⟩
    rcases List.mem_append.mp hq with h | h
    · exact e q h
    · rw [List.mem_singleton] at h
      subst h
      exact ⟨hv, hC.elim id (fun z => absurd hw z)⟩
  · split
    · exact ⟨by show 2 ≤ max 2 _; omega, by show max 2 (min 17 v) ≤ 17; omega, c, d, e⟩
    · exact ⟨a, b, by show 1 ≤ max 1 _; omega, by show max 1 (min 3 v) ≤ 3; omega, e⟩
theorem f_cl_ok {T : Nat → Nat} {n p : Nat} {y : fYd} (hp : p ≤ n) (h : 2 ≤ y.1 ∧ y.1 ≤ 17 ∧ 1 ≤ y.2.1 ∧ y.2.1 ≤ 3 ∧ f_rok y.2.2) : 2 ≤ (f_cl T n p y).2.2.1 ∧ (f_cl T n p y).2.2.1 ≤ 17 ∧ 1 ≤ (f_cl T n p y).2.2.2.1 ∧ (f_cl T n p y).2.2.2.1 ≤ 3 ∧ f_rok (f_cl T n p y).2.2.2.2 := by
  obtain ⟨a1, a2, a3, a4⟩ := f_head_p (T := T) hp
  unfold f_cl
  split
  · split
    · split
      · split
        · rename_i h5
          exact f_keep_ok a3 (Or.inl (f_pe_wf T n _ h5)) h
        · exact h
      · exact h
    · rename_i hw
      exact f_keep_ok a3 (Or.inr hw) h
  · exact h
theorem f_cls_ok {T : Nat → Nat} {n : Nat} : ∀ (k p : Nat) (y : fYd), p ≤ n → n ≤ 100 → y.2.2.length + k ≤ 10 → f_beg y.2.2 y.2.2.length ≤ p → (2 ≤ y.1 ∧ y.1 ≤ 17 ∧ 1 ≤ y.2.1 ∧ y.2.1 ≤ 3 ∧ f_rok y.2.2) → f_yok (f_cls T n k p y).2.2 := by
  intro k
  induction k with
  | zero => intro p y hp hn hl hb ⟨a, b, c, d, e⟩; exact ⟨a, b, c, d, by show y.2.2.length ≤ 10; omega, by show f_beg y.2.2 y.2.2.length ≤ 100; omega, e⟩
  | succ k ih =>
    intro p y hp hn hl hb hy
    obtain ⟨c1, c2, c3, c4⟩ := f_cl_p (T := T) (y := y) hp
    obtain ⟨a, b, c, d, e⟩ := f_cl_ok (T := T) hp hy
    have g : f_yok (f_cl T n p y).2.2 := ⟨a, b, c, d, by omega, by omega, e⟩
    unfold f_cls
    split
    · split
      · exact g
      · split
        · exact g
        · split
          · rename_i h59
            have := f_is_lt h59
            exact ih _ _ (by omega) hn (by omega) (by omega) ⟨a, b, c, d, e⟩
          · exact g
    · exact g
theorem f_yrd_ok {T : Nat → Nat} {n : Nat} (hn : n ≤ 100) : f_yok (f_yrd T n).2.2 := f_cls_ok 10 0 (12, 2, []) (Nat.zero_le _) hn (Nat.le_refl _) (Nat.le_refl _) ⟨by show 2 ≤ 12; omega, by show 12 ≤ 17; omega, by show 1 ≤ 2; omega, by show 2 ≤ 3; omega, fun q hq => by simp at hq⟩
theorem f_yrd_p {T : Nat → Nat} {n : Nat} : (f_yrd T n).2.1 ≤ n := by
  have : ∀ (k p : Nat) (y : fYd), p ≤ n → (f_cls T n k p y).2.1 ≤ n := by
    intro k
    induction k with
    | zero => intro p y hp; exact hp
    | succ k ih =>
      intro p y hp
      obtain ⟨c1, c2, c3, c4⟩ := f_cl_p (T := T) (y := y) hp
      unfold f_cls
      split
      · split
        · exact c2
        · split
          · exact c2
          · split
            · rename_i h59
              have := f_is_lt h59
              exact ih _ _ (by omega)
            · exact c2
      · exact c2
  exact this 10 0 _ (Nat.zero_le _)
/-! copies -/
def f_cy (y a : Nat) (M M' : fMem) : Prop := (∀ i, i < 4 → M'.1 y i = M.1 a i) ∧ (∀ i, i < 10 → M'.1 (y + 1) i = M.1 (a + 1) i) ∧ (∀ i, i < 10 → M'.1 (y + 2) i = M.1 (a + 2) i) ∧ (∀ i, i < 10 → M'.1 (y + 3) i = M.1 (a + 3) i) ∧ ∀ i, i < 100 → M'.1 (y + 4) i = M.1 (a + 4) i
def S_ycp : fSp := fun G As M R => match As with
  | [.ref y, .ref a] => G = f_GX ∧ ((y = 5 ∧ a = 28) ∨ (y = 5 ∧ a = 18) ∨ (y = 18 ∧ a = 5)) ∧ (∀ M', f_ex [y, y + 1, y + 2, y + 3, y + 4] [] M M' → f_cy y a M M' → R G none M')
  | _ => False
theorem f_ex.cpy {cs ds : List Nat} {M M' : fMem} (h : f_ex cs ds M M') {a b n : Nat} (hc : b ∈ cs) : f_ex cs ds M (f_cpy M' a b n) := ⟨fun d hd => by
  have : d ≠ b := fun e => hd (e ▸ hc)
  rw [← h.1 d hd]
  funext i
  show (if d = b then _ else M'.1 d i) = _
  rw [if_neg this], h.2⟩
theorem f_cpy_at (M : fMem) (a b n i : Nat) (h : i < n) : (f_cpy M a b n).1 b i = M.1 a i := by
  show (if b = b then (if i < n then M.1 a i else M.1 b i) else M.1 b i) = _
  rw [if_pos rfl, if_pos h]
theorem f_cpy_ne (M : fMem) (a b n c : Nat) (h : c ≠ b) : (f_cpy M a b n).1 c = M.1 c := by
  funext i
  show (if c = b then _ else M.1 c i) = _
  rw [if_neg h]
set_option maxRecDepth 20000 in
theorem m_ycp : f_Meets 2 (kX10_copy S_copyRow) S_ycp := by
  intro G As M R hsp X hX hW
  match As, hsp with
  | [.ref y, .ref a], ⟨hG, hya, hsp⟩ =>
    subst hG
    rcases hya with ⟨rfl, rfl⟩ | ⟨rfl, rfl⟩ | ⟨rfl, rfl⟩
    · refine f_run_ok (stop := fun _ => false) hX 60 _ _ _ _ _ ?_
      refine hsp (f_cpy (f_cpy (f_cpy (f_cpy (f_up (f_up (f_up (f_up M.1 5 0 (M.1 28 0)) 5 1 (M.1 28 1)) 5 2 (M.1 28 2)) 5 3 (M.1 28 3), M.2) 29 6 10) 30 7 10) 31 8 10) 32 9 100) ((((((((f_ex.rf.up (by decide)).up (c := 5) (by decide)).up (c := 5) (by decide)).up (c := 5) (by decide)).cpy (b := 6) (by decide)).cpy (b := 7) (by decide)).cpy (b := 8) (by decide)).cpy (b := 9) (by decide)) ⟨fun i hi => ?_, fun i hi => ?_, fun i hi => ?_, fun i hi => ?_, fun i hi => ?_⟩
      · show (if i = 3 then M.1 28 3 else (if i = 2 then M.1 28 2 else (if i = 1 then M.1 28 1 else (if i = 0 then M.1 28 0 else M.1 5 i)))) = M.1 28 i
        have : i = 0 ∨ i = 1 ∨ i = 2 ∨ i = 3 := by omega
        rcases this with rfl | rfl | rfl | rfl <;> rfl
      · exact if_pos hi
      · exact if_pos hi
      · exact if_pos hi
      · exact if_pos hi
    · refine f_run_ok (stop := fun _ => false) hX 60 _ _ _ _ _ ?_
      refine hsp (f_cpy (f_cpy (f_cpy (f_cpy (f_up (f_up (f_up (f_up M.1 5 0 (M.1 18 0)) 5 1 (M.1 18 1)) 5 2 (M.1 18 2)) 5 3 (M.1 18 3), M.2) 19 6 10) 20 7 10) 21 8 10) 22 9 100) ((((((((f_ex.rf.up (by decide)).up (c := 5) (by decide)).up (c := 5) (by decide)).up (c := 5) (by decide)).cpy (b := 6) (by decide)).cpy (b := 7) (by decide)).cpy (b := 8) (by decide)).cpy (b := 9) (by decide)) ⟨fun i hi => ?_, fun i hi => ?_, fun i hi => ?_, fun i hi => ?_, fun i hi => ?_⟩
      · show (if i = 3 then M.1 18 3 else (if i = 2 then M.1 18 2 else (if i = 1 then M.1 18 1 else (if i = 0 then M.1 18 0 else M.1 5 i)))) = M.1 18 i
        have : i = 0 ∨ i = 1 ∨ i = 2 ∨ i = 3 := by omega
        rcases this with rfl | rfl | rfl | rfl <;> rfl
      · exact if_pos hi
      · exact if_pos hi
      · exact if_pos hi
      · exact if_pos hi
    · refine f_run_ok (stop := fun _ => false) hX 60 _ _ _ _ _ ?_
      refine hsp (f_cpy (f_cpy (f_cpy (f_cpy (f_up (f_up (f_up (f_up M.1 18 0 (M.1 5 0)) 18 1 (M.1 5 1)) 18 2 (M.1 5 2)) 18 3 (M.1 5 3), M.2) 6 19 10) 7 20 10) 8 21 10) 9 22 100) ((((((((f_ex.rf.up (by decide)).up (c := 18) (by decide)).up (c := 18) (by decide)).up (c := 18) (by decide)).cpy (b := 19) (by decide)).cpy (b := 20) (by decide)).cpy (b := 21) (by decide)).cpy (b := 22) (by decide)) ⟨fun i hi => ?_, fun i hi => ?_, fun i hi => ?_, fun i hi => ?_, fun i hi => ?_⟩
      · show (if i = 3 then M.1 5 3 else (if i = 2 then M.1 5 2 else (if i = 1 then M.1 5 1 else (if i = 0 then M.1 5 0 else M.1 18 i)))) = M.1 5 i
        have : i = 0 ∨ i = 1 ∨ i = 2 ∨ i = 3 := by omega
        rcases this with rfl | rfl | rfl | rfl <;> rfl
      · exact if_pos hi
      · exact if_pos hi
      · exact if_pos hi
      · exact if_pos hi
