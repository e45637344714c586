/-! ===== the reference: acts, until ===== -/
def f_TML : List Nat := [116, 1035]
def S_rb : fSp := fun G As M R => match As with
  | [.ref 100, .int z] => ∃ (w : Nat) (tr : List Nat), G = f_GM ∧ z = nI w ∧ f_TM M tr ∧ tr.length < 1000 ∧ (∀ M', f_em f_TML M M' → f_TM M' (tr ++ [w]) → R G none M')
  | _ => False
set_option maxRecDepth 20000 in
theorem m_rb : f_Meets 2 kX12_ranBody S_rb := by
  intro G As M R hsp X hX hW
  match As, hsp with
  | [.ref 100, .int z], ⟨w, tr, hG, hz, ⟨h1, h2⟩, hl, hsp⟩ =>
    subst hG; subst hz
    have el : (tr ++ [w]).length = tr.length + 1 := by rw [List.length_append]; rfl
    refine f_run_ok (stop := fun q => false) hX 40 _ _ _ _ _ ?_
    refine And.intro (fun h => ?_) (fun h => ?_)
    · have h : 20 ≤ M.1 100 35 := h
      rw [h1] at h
      have h := (nI_leI (a := 20) (by omega) (by omega)).mp h
      refine hsp (f_up M.1 100 35 (M.1 100 35 + 1), M.2) (f_em.rf.uf (by decide)) ⟨?_, fun i y hi hy => ?_⟩
      · show M.1 100 35 + 1 = _
        rw [h1, el, nI_succ]
      · rw [List.getElem?_append_left (by omega)] at hy
        exact h2 i y hi hy
    · have h : ¬ 20 ≤ M.1 100 35 := h
      rw [h1] at h
      have h : ¬ 20 ≤ tr.length := fun z => h (nI_le (a := 20) z (by omega))
      obtain ⟨i1, i2⟩ := f_ix (n := 20) h1 (by omega) (by omega)
      refine And.intro i1 ?_
      refine hsp (f_up (f_up M.1 116 (M.1 100 35).toNatClampNeg (nI w)) 100 35 (M.1 100 35 + 1), M.2) ((f_em.rf.up (c := 116) (by decide)).uf (by decide)) ⟨?_, fun i y hi hy => ?_⟩
      · show M.1 100 35 + 1 = _
        rw [h1, el, nI_succ]
      · show (if i = (M.1 100 35).toNatClampNeg then nI w else M.1 116 i) = nI y
        rw [i2]
        by_cases e : i = tr.length
        · rw [if_pos e]
          subst e
          rw [List.getElem?_append_right (Nat.le_refl _), Nat.sub_self] at hy
          cases hy
          rfl
        · rw [if_neg e]
          have hlt := (List.getElem?_eq_some_iff.mp hy).1
          rw [List.getElem?_append_left (by omega)] at hy
          exact h2 i y hi hy
abbrev fAc : Type := Nat → Int32 → Int32 → Int32 → Int32 × List Nat
def f_aPB : fAc := fun _ _ b x => (x + b, [1])
def f_aB : fAc := fun kd v b x => if f_und kd 1 = true then ((f_aPB kd v b (x * 3)).1, 11 :: (f_aPB kd v b (x * 3)).2) else if kd = 5 then ((f_aPB kd v b x).1 ^^^ b, 51 :: (f_aPB kd v b x).2) else f_aPB kd v b x
def f_aPK : fAc := fun kd v b x => ((f_aB kd v b x).1 - v, 2 :: (f_aB kd v b x).2)
def f_aK : fAc := fun kd v b x => if f_und kd 2 = true then (-(f_aPK kd v b x).1, 21 :: (f_aPK kd v b x).2) else if kd = 6 then ((f_aPK kd v b x).1 + v, 61 :: (f_aPK kd v b x).2) else f_aPK kd v b x
def f_aPT : fAc := fun kd v b x => ((f_aK kd v b x).1 * 2, 3 :: (f_aK kd v b x).2)
def f_aT : fAc := fun kd v b x => if f_und kd 3 = true then ((f_aPT kd v b x).1 ^^^ 7, 31 :: (f_aPT kd v b x).2) else if kd = 4 then ((f_aPT kd v b (x - 1)).1 + (f_aB kd v b 2).1, 41 :: ((f_aPT kd v b (x - 1)).2 ++ (f_aB kd v b 2).2)) else f_aPT kd v b x
def S_ac2 (F : fAc) : fSp := fun G As M R => match As with
  | [.ref 100, .int x] => ∃ (kd : Nat) (v b : Int32) (tr : List Nat), G = f_GM ∧ kd < 7 ∧ M.1 100 36 = nI kd ∧ M.1 100 37 = b ∧ M.1 100 38 = v ∧ f_TM M tr ∧ tr.length + (F kd v b x).2.length < 1000 ∧ (∀ M', f_em f_TML M M' → f_TM M' (tr ++ (F kd v b x).2) → R G (some (.int (F kd v b x).1)) M')
  | _ => False
theorem f_em.f36 {M M' : fMem} (h : f_em f_TML M M') : M'.1 100 36 = M.1 100 36 ∧ M'.1 100 37 = M.1 100 37 ∧ M'.1 100 38 = M.1 100 38 := ⟨h.2.2.1 36 (by decide), h.2.2.1 37 (by decide), h.2.2.1 38 (by decide)⟩
theorem f_len1 (w : Nat) (l : List Nat) : (w :: l).length = l.length + 1 := rfl
set_option maxRecDepth 20000 in
theorem m_aPB : f_Meets 2 (kX12_plainBends S_rb) (S_ac2 f_aPB) := by
  intro G As M R hsp X hX hW
  match As, hsp with
  | [.ref 100, .int x], ⟨kd, v, b, tr, hG, hk, h36, h37, h38, ht, hl, hsp⟩ =>
    subst hG
    have hl : tr.length + 1 < 1000 := hl
    refine f_run_ok (stop := fun q => false) hX 40 _ _ _ _ _ ?_
    refine ⟨1, tr, rfl, rfl, ht, by omega, fun M1 he1 ht1 => ?_⟩
    refine f_fin (hsp M1 he1 ht1) ?_ rfl
    show some (Value.int (x + b)) = some (Value.int (x + M1.1 100 37))
    rw [he1.f36.2.1, h37]
set_option maxRecDepth 20000 in
theorem m_aPK : f_Meets 2 (kX12_plainBreaks S_rb (S_ac2 f_aB)) (S_ac2 f_aPK) := by
  intro G As M R hsp X hX hW
  match As, hsp with
  | [.ref 100, .int x], ⟨kd, v, b, tr, hG, hk, h36, h37, h38, ht, hl, hsp⟩ =>
    subst hG
    have hl : tr.length + (((f_aB) kd v b x).2.length + 1) < 1000 := hl
    have ea : ∀ l : List Nat, tr ++ [2] ++ l = tr ++ (2 :: l) := fun l => by rw [List.append_assoc]; rfl
    have el : (tr ++ [2]).length = tr.length + 1 := by rw [List.length_append]; rfl
    refine f_run_ok (stop := fun q => false) hX 40 _ _ _ _ _ ?_
    refine ⟨2, tr, rfl, rfl, ht, by omega, fun M1 he1 ht1 => ?_⟩
    obtain ⟨e1, e2, e3⟩ := he1.f36
    refine ⟨kd, v, b, tr ++ [2], rfl, hk, e1.trans h36, e2.trans h37, e3.trans h38, ht1, by rw [el]; omega, fun M2 he2 ht2 => ?_⟩
    obtain ⟨g1, g2, g3⟩ := he2.f36
    rw [ea] at ht2
    refine f_fin (hsp M2 (he1.tr he2) ht2) ?_ rfl
    show some (Value.int ((f_aB kd v b x).1 - v)) = some (Value.int ((f_aB kd v b x).1 - M2.1 100 38))
    rw [g3, e3, h38]
set_option maxRecDepth 20000 in
theorem m_aPT : f_Meets 2 (kX12_plainTells S_rb (S_ac2 f_aK)) (S_ac2 f_aPT) := by
  intro G As M R hsp X hX hW
  match As, hsp with
  | [.ref 100, .int x], ⟨kd, v, b, tr, hG, hk, h36, h37, h38, ht, hl, hsp⟩ =>
    subst hG
    have hl : tr.length + (((f_aK) kd v b x).2.length + 1) < 1000 := hl
    have ea : ∀ l : List Nat, tr ++ [3] ++ l = tr ++ (3 :: l) := fun l => by rw [List.append_assoc]; rfl
    have el : (tr ++ [3]).length = tr.length + 1 := by rw [List.length_append]; rfl
    refine f_run_ok (stop := fun q => false) hX 40 _ _ _ _ _ ?_
    refine ⟨3, tr, rfl, rfl, ht, by omega, fun M1 he1 ht1 => ?_⟩
    obtain ⟨e1, e2, e3⟩ := he1.f36
    refine ⟨kd, v, b, tr ++ [3], rfl, hk, e1.trans h36, e2.trans h37, e3.trans h38, ht1, by rw [el]; omega, fun M2 he2 ht2 => ?_⟩
    obtain ⟨g1, g2, g3⟩ := he2.f36
    rw [ea] at ht2
    refine f_fin (hsp M2 (he1.tr he2) ht2) ?_ rfl
    rfl
set_option maxRecDepth 20000 in
theorem m_aB : f_Meets 2 (kX12_bendsActs S_und S_rb (S_ac2 f_aPB)) (S_ac2 f_aB) := by
  intro G As M R hsp X hX hW
  match As, hsp with
  | [.ref 100, .int x], ⟨kd, v, b, tr, hG, hk, h36, h37, h38, ht, hl, hsp⟩ =>
    subst hG
    have ea : ∀ (w : Nat) (l : List Nat), tr ++ [w] ++ l = tr ++ (w :: l) := fun w l => by rw [List.append_assoc]; rfl
    have el : ∀ w : Nat, (tr ++ [w]).length = tr.length + 1 := fun w => by rw [List.length_append]; rfl
    unfold f_aB at hl hsp
    refine f_run_ok (stop := fun q => false) hX 60 _ _ _ _ _ ?_
    refine ⟨kd, 1, h36, rfl, hk, by omega, ?_⟩
    refine And.intro (fun h => ?_) (fun h => ?_)
    · have h := f_b0.mp h
      rw [if_neg (by rw [h]; decide)] at hl hsp
      refine And.intro (fun h2 => ?_) (fun h2 => ?_)
      · have h2 : M.1 100 36 = 5 := h2
        rw [h36] at h2
        have h2 := (nI_eq (b := 5) (by omega) (by omega)).mp h2
        rw [if_pos h2] at hl hsp
        have hl : tr.length + ((f_aPB kd v b x).2.length + 1) < 1000 := hl
        refine ⟨51, tr, rfl, rfl, ht, by omega, fun M1 he1 ht1 => ?_⟩
        obtain ⟨e1, e2, e3⟩ := he1.f36
        refine ⟨kd, v, b, tr ++ [51], rfl, hk, e1.trans h36, e2.trans h37, e3.trans h38, ht1, by rw [el]; omega, fun M2 he2 ht2 => ?_⟩
        obtain ⟨g1, g2, g3⟩ := he2.f36
        rw [ea] at ht2
        refine f_fin (hsp M2 (he1.tr he2) ht2) ?_ rfl
        show some (Value.int ((f_aPB kd v b x).1 ^^^ b)) = some (Value.int ((f_aPB kd v b x).1 ^^^ M2.1 100 37))
        rw [g2, e2, h37]
      · have h2 : ¬ M.1 100 36 = 5 := h2
        rw [h36] at h2
        have h2 : ¬ kd = 5 := fun z => h2 (by rw [z]; rfl)
        rw [if_neg h2] at hl hsp
        exact ⟨kd, v, b, tr, rfl, hk, h36, h37, h38, ht, hl, hsp⟩
    · have h := f_b_nt h
      rw [if_pos h] at hl hsp
      have hl : tr.length + ((f_aPB kd v b (x * 3)).2.length + 1) < 1000 := hl
      refine ⟨11, tr, rfl, rfl, ht, by omega, fun M1 he1 ht1 => ?_⟩
      obtain ⟨e1, e2, e3⟩ := he1.f36
      refine ⟨kd, v, b, tr ++ [11], rfl, hk, e1.trans h36, e2.trans h37, e3.trans h38, ht1, by rw [el]; exact (show tr.length + 1 + (f_aPB kd v b (x * 3)).2.length < 1000 by omega), fun M2 he2 ht2 => ?_⟩
      rw [ea] at ht2
      exact hsp M2 (he1.tr he2) ht2
set_option maxRecDepth 20000 in
theorem m_aK : f_Meets 2 (kX12_breaksActs S_und S_rb (S_ac2 f_aPK)) (S_ac2 f_aK) := by
  intro G As M R hsp X hX hW
  match As, hsp with
  | [.ref 100, .int x], ⟨kd, v, b, tr, hG, hk, h36, h37, h38, ht, hl, hsp⟩ =>
    subst hG
    have ea : ∀ (w : Nat) (l : List Nat), tr ++ [w] ++ l = tr ++ (w :: l) := fun w l => by rw [List.append_assoc]; rfl
    have el : ∀ w : Nat, (tr ++ [w]).length = tr.length + 1 := fun w => by rw [List.length_append]; rfl
    unfold f_aK at hl hsp
    refine f_run_ok (stop := fun q => false) hX 60 _ _ _ _ _ ?_
    refine ⟨kd, 2, h36, rfl, hk, by omega, ?_⟩
    refine And.intro (fun h => ?_) (fun h => ?_)
    · have h := f_b0.mp h
      rw [if_neg (by rw [h]; decide)] at hl hsp
      refine And.intro (fun h2 => ?_) (fun h2 => ?_)
      · have h2 : M.1 100 36 = 6 := h2
        rw [h36] at h2
        have h2 := (nI_eq (b := 6) (by omega) (by omega)).mp h2
        rw [if_pos h2] at hl hsp
        have hl : tr.length + ((f_aPK kd v b x).2.length + 1) < 1000 := hl
        refine ⟨61, tr, rfl, rfl, ht, by omega, fun M1 he1 ht1 => ?_⟩
        obtain ⟨e1, e2, e3⟩ := he1.f36
        refine ⟨kd, v, b, tr ++ [61], rfl, hk, e1.trans h36, e2.trans h37, e3.trans h38, ht1, by rw [el]; omega, fun M2 he2 ht2 => ?_⟩
        obtain ⟨g1, g2, g3⟩ := he2.f36
        rw [ea] at ht2
        refine f_fin (hsp M2 (he1.tr he2) ht2) ?_ rfl
        show some (Value.int ((f_aPK kd v b x).1 + v)) = some (Value.int ((f_aPK kd v b x).1 + M2.1 100 38))
        rw [g3, e3, h38]
      · have h2 : ¬ M.1 100 36 = 6 := h2
        rw [h36] at h2
        have h2 : ¬ kd = 6 := fun z => h2 (by rw [z]; rfl)
        rw [if_neg h2] at hl hsp
        exact ⟨kd, v, b, tr, rfl, hk, h36, h37, h38, ht, hl, hsp⟩
    · have h := f_b_nt h
      rw [if_pos h] at hl hsp
      have hl : tr.length + ((f_aPK kd v b x).2.length + 1) < 1000 := hl
      refine ⟨21, tr, rfl, rfl, ht, by omega, fun M1 he1 ht1 => ?_⟩
      obtain ⟨e1, e2, e3⟩ := he1.f36
      refine ⟨kd, v, b, tr ++ [21], rfl, hk, e1.trans h36, e2.trans h37, e3.trans h38, ht1, by rw [el]; exact (show tr.length + 1 + (f_aPK kd v b x).2.length < 1000 by omega), fun M2 he2 ht2 => ?_⟩
      rw [ea] at ht2
      exact hsp M2 (he1.tr he2) ht2
set_option maxRecDepth 20000 in
theorem m_aT : f_Meets 3 (kX12_tellsActs S_und S_rb (S_ac2 f_aPT) (S_ac2 f_aB)) (S_ac2 f_aT) := by
  intro G As M R hsp X hX hW
  match As, hsp with
  | [.ref 100, .int x], ⟨kd, v, b, tr, hG, hk, h36, h37, h38, ht, hl, hsp⟩ =>
    subst hG
    have ea : ∀ (w : Nat) (l : List Nat), tr ++ [w] ++ l = tr ++ (w :: l) := fun w l => by rw [List.append_assoc]; rfl
    have el : ∀ w : Nat, (tr ++ [w]).length = tr.length + 1 := fun w => by rw [List.length_append]; rfl
    unfold f_aT at hl hsp
    refine f_run_ok (stop := fun q => false) hX 60 _ _ _ _ _ ?_
    refine ⟨kd, 3, h36, rfl, hk, by omega, ?_⟩
    refine And.intro (fun h => ?_) (fun h => ?_)
    · have h := f_b0.mp h
      rw [if_neg (by rw [h]; decide)] at hl hsp
      refine And.intro (fun h2 => ?_) (fun h2 => ?_)
      · have h2 : M.1 100 36 = 4 := h2
        rw [h36] at h2
        have h2 := (nI_eq (b := 4) (by omega) (by omega)).mp h2
        rw [if_pos h2] at hl hsp
        have hl : tr.length + (((f_aPT kd v b (x - 1)).2 ++ (f_aB kd v b 2).2).length + 1) < 1000 := hl
        rw [List.length_append] at hl
        refine ⟨41, tr, rfl, rfl, ht, by omega, fun M1 he1 ht1 => ?_⟩
        obtain ⟨e1, e2, e3⟩ := he1.f36
        refine ⟨kd, v, b, tr ++ [41], rfl, hk, e1.trans h36, e2.trans h37, e3.trans h38, ht1, by rw [el]; exact (show tr.length + 1 + (f_aPT kd v b (x - 1)).2.length < 1000 by omega), fun M2 he2 ht2 => ?_⟩
        obtain ⟨g1, g2, g3⟩ := he2.f36
        refine ⟨kd, v, b, tr ++ [41] ++ (f_aPT kd v b (x - 1)).2, rfl, hk, (g1.trans e1).trans h36, (g2.trans e2).trans h37, (g3.trans e3).trans h38, ht2, by rw [List.length_append, el]; omega, fun M3 he3 ht3 => ?_⟩
        rw [ea, List.append_assoc] at ht3
        exact hsp M3 ((he1.tr he2).tr he3) ht3
      · have h2 : ¬ M.1 100 36 = 4 := h2
        rw [h36] at h2
        have h2 : ¬ kd = 4 := fun z => h2 (by rw [z]; rfl)
        rw [if_neg h2] at hl hsp
        exact ⟨kd, v, b, tr, rfl, hk, h36, h37, h38, ht, hl, hsp⟩
    · have h := f_b_nt h
      rw [if_pos h] at hl hsp
      have hl : tr.length + ((f_aPT kd v b x).2.length + 1) < 1000 := hl
      refine ⟨31, tr, rfl, rfl, ht, by omega, fun M1 he1 ht1 => ?_⟩
      obtain ⟨e1, e2, e3⟩ := he1.f36
      refine ⟨kd, v, b, tr ++ [31], rfl, hk, e1.trans h36, e2.trans h37, e3.trans h38, ht1, by rw [el]; exact (show tr.length + 1 + (f_aPT kd v b x).2.length < 1000 by omega), fun M2 he2 ht2 => ?_⟩
      rw [ea] at ht2
      exact hsp M2 (he1.tr he2) ht2
theorem f_rn_ref (v b x : Int32) : ∀ kd, kd < 7 → f_rn kd v b 41 0 kd x = f_aB kd v b x ∧ f_rn kd v b 41 1 kd x = f_aK kd v b x ∧ f_rn kd v b 41 2 kd x = f_aT kd v b x
  | 0, _ => ⟨rfl, rfl, rfl⟩
  | 1, _ => ⟨rfl, rfl, rfl⟩
  | 2, _ => ⟨rfl, rfl, rfl⟩
  | 3, _ => ⟨rfl, rfl, rfl⟩
  | 4, _ => ⟨rfl, rfl, rfl⟩
  | 5, _ => ⟨rfl, rfl, rfl⟩
  | 6, _ => ⟨rfl, rfl, rfl⟩
  | _ + 7, h => absurd h (by omega)
theorem f_RM.trc {s : fSt} {M M' : fMem} {tr : List Nat} (hR : f_RM s M) (he : f_em [116, 1035, 1036, 1037, 1038] M M') (ht : f_TM M' tr) : f_RM (s.1, s.2.1, tr) M' := by
  obtain ⟨a, b, c, _⟩ := hR
  exact ⟨a.cg (he.1 101 (by decide) (by decide)), (he.2.2.1 3 (by decide)).trans b, fun k hk => (c k hk).cg (he.1 102 (by decide) (by decide)), ht⟩
set_option maxRecDepth 20000 in
theorem m_y_act : f_Meets 4 (kX12_act S_yB S_in (S_ac2 f_aB) (S_ac2 f_aK) (S_ac2 f_aT)) (f_y3 p_act) := by
  intro G As M R hsp X hX hW
  match As, hsp with
  | [.ref 100, .int b, .int a, .int x], ⟨s, hG, hS, hR, hsp⟩ =>
    subst hG
    unfold p_act at hsp
    have he0 : f_em [116, 1035, 1036, 1037, 1038] M (f_up M.1 100 35 0, M.2) := f_em.rf.uf (by decide)
    have ht0 : f_TM (f_up M.1 100 35 0, M.2) [] := ⟨rfl, fun i y _ hy => by simp at hy⟩
    have bad : (f_ng b s = false ∨ a < 0 ∨ 2 < a) → X f_GM 22 [some (.ref 100), some (.int b), some (.int a), some (.int x)] [] (f_up M.1 100 35 0, M.2) := by
      intro h
      rw [if_pos h] at hsp
      refine f_run_ok (stop := fun _ => false) hX 10 _ _ _ _ _ ?_
      exact hsp _ (hR.trc he0 ht0)
    have hR0 : (f_up M.1 100 35 0) 101 = M.1 101 := f_up_ne (by decide)
    refine f_run_ok (stop := fun q => Nat.beq q 22 || Nat.beq q 24) hX 40 _ _ _ _ _ ?_
    refine ⟨s.1.1 0 0, rfl, by have := hS.nb; omega, hR.nb, ?_⟩
    rw [f_ngM]
    cases hb : f_ng b s with
    | false => exact And.intro (fun _ => bad (Or.inl hb)) (fun z => absurd rfl z)
    | true =>
      obtain ⟨b1, b2, b3⟩ := f_ng_t hS hb
      refine And.intro (fun z => absurd z (by decide)) (fun _ => ?_)
      refine And.intro (fun h => ?_) (fun h => ?_)
      · have h : f_b (decide (0 ≤ a ∧ a ≤ 2)) = 0 := h
        exact bad (Or.inr (f_inN h))
      have h : ¬ f_b (decide (0 ≤ a ∧ a ≤ 2)) = 0 := h
      have h := f_inY h
      rw [if_neg (by rw [hb]; exact fun z => z.elim (by decide) (fun z => z.elim (Int32.not_lt.mpr h.1) (Int32.not_lt.mpr h.2)))] at hsp
      clear bad
      obtain ⟨A, hAb, rfl⟩ := nI_of (x := a) (Int32.not_lt.mpr h.1)
      have a2 := (nI_leI (b := 2) hAb (by omega)).mp h.2
      rw [f_n_nI hAb] at hsp
      generalize f_n b = B at *
      subst b3
      obtain ⟨i1, i2⟩ := hR.kdi b2
      obtain ⟨j1, j2⟩ := hR.vli b2
      have hkd := hS.kd B
      have hlen := f_rn_len (nI (s.1.1 2 B)) (nI B) x A (s.1.1 1 B) (by omega) hkd
      obtain ⟨r0, r1, r2⟩ := f_rn_ref (nI (s.1.1 2 B)) (nI B) x (s.1.1 1 B) hkd
      generalize s.1.1 1 B = kd at *
      generalize s.1.1 2 B = v at *
      obtain ⟨M1, hM1⟩ : ∃ M1 : fMem, (f_up (f_up (f_up (f_up M.1 100 35 0) 100 36 (nI kd)) 100 37 (nI B)) 100 38 (nI v), M.2) = M1 := ⟨_, rfl⟩
      have he1 : f_em [116, 1035, 1036, 1037, 1038] M M1 := by
        rw [← hM1]
        exact (((f_em.rf.uf (by decide)).uf (k := 36) (by decide)).uf (k := 37) (by decide)).uf (k := 38) (by decide)
      have g36 : M1.1 100 36 = nI kd := by rw [← hM1]; rfl
      have g37 : M1.1 100 37 = nI B := by rw [← hM1]; rfl
      have g38 : M1.1 100 38 = nI v := by rw [← hM1]; rfl
      have gt : f_TM M1 [] := by
        rw [← hM1]
        exact ⟨rfl, fun i y _ hy => by simp at hy⟩
      have fin : ∀ F : fAc, f_rn kd (nI v) (nI B) 41 A kd x = F kd (nI v) (nI B) x → S_ac2 F f_GM [.ref 100, .int x] M1 R := by
        intro F hF
        rw [hF] at hsp hlen
        exact ⟨kd, nI v, nI B, [], rfl, hkd, g36, g37, g38, gt, by show 0 + _ < 1000; omega, fun M' he ht => hsp M' (hR.trc (he1.tr (he.mono (by decide))) ht)⟩
      refine f_run_ok (stop := fun q => Nat.beq q 55) hX 60 _ _ _ _ _ ?_
      refine And.intro i1 (And.intro j1 ?_)
      show X f_GM 55 [some (.ref 100), some (.int (nI B)), some (.int (nI A)), some (.int x)] [] (f_up (f_up (f_up (f_up M.1 100 35 0) 100 36 (M.1 101 (9 + nI B).toNatClampNeg)) 100 37 (nI B)) 100 38 (M.1 101 (15 + nI B).toNatClampNeg), M.2)
      rw [i2, j2, hM1]
      refine f_run_ok (stop := fun q => false) hX 60 _ _ _ _ _ ?_
      refine And.intro (fun h2 => ?_) (fun h2 => And.intro (fun h3 => ?_) (fun h3 => ?_))
      · have h2 := (nI_eq (b := 0) (by omega) (by omega)).mp h2
        subst h2
        exact fin f_aB r0
      · have h3 := (nI_eq (b := 1) (by omega) (by omega)).mp h3
        subst h3
        exact fin f_aK r1
      · have h2 : ¬ A = 0 := fun z => h2 (by rw [z]; rfl)
        have h3 : ¬ A = 1 := fun z => h3 (by rw [z]; rfl)
        have : A = 2 := by omega
        subst this
        exact fin f_aT r2
