/-! ===== the reference: a yard is read: much, tellsHere ===== -/
theorem f_hd_fg {T : Nat → Nat} {n p c i : Nat} : f_fg T n (f_wrd T n (f_swd i) p).2 (!(f_wrd T n (f_swd i) p).1) = (!(f_hdw T n c (f_swd i) p).1, (f_hdw T n c (f_swd i) p).2.1, (f_hdw T n c (f_swd i) p).2.2.2) := by
  unfold f_hdw f_fg
  by_cases h : (f_wrd T n (f_swd i) p).1 = true
  · rw [if_pos h, h, if_neg (by decide)]
    cases f_num T n (f_wrd T n (f_swd i) p).2 with
    | none => rfl
    | some r => rfl
  · rw [if_neg h, if_pos (by simpa using h)]
    rfl
def f_mc (T : Nat → Nat) (n p i : Nat) : Bool × Nat × Nat × List Nat :=
  if (f_hdw T n 0 (f_swd i) p).1 = true then (if f_is T n (f_hdw T n 0 (f_swd i) p).2.1 32 = true then ((f_pe T n (f_pf T n 5) ((f_hdw T n 0 (f_swd i) p).2.1 + 1) []).1, (f_pe T n (f_pf T n 5) ((f_hdw T n 0 (f_swd i) p).2.1 + 1) []).2.1, (f_hdw T n 0 (f_swd i) p).2.2.2, (f_pe T n (f_pf T n 5) ((f_hdw T n 0 (f_swd i) p).2.1 + 1) []).2.2) else (false, (f_hdw T n 0 (f_swd i) p).2.1, 0, [])) else (false, (f_hdw T n 0 (f_swd i) p).2.1, 0, [])
def S_mch : fSp := fun G As M R => match As with
  | [.ref 100, .int zk, .ref r] => ∃ (T : Nat → Nat) (n p a i : Nat) (L : List Int32), G = f_GM ∧ ((i = 2 ∧ zk = -10) ∨ (i = 3 ∧ zk = -200)) ∧ r = 2000 + i ∧ f_YS M T n p a false 0 ∧ f_YC M a L ∧ L.length ≤ p ∧ (∀ M', f_yq (f_zs a) M M' → f_YS M' T n (f_mc T n p i).2.1 a (!(f_mc T n p i).1) 0 → ((f_mc T n p i).1 = true → f_YC M' a (L ++ (f_mc T n p i).2.2.2.map f_rst ++ [f_rsE (decide (i = 3), (f_mc T n p i).2.2.1)]) ∧ L.length + (f_mc T n p i).2.2.2.length + 1 ≤ (f_mc T n p i).2.1) → R G none M')
  | _ => False
set_option maxRecDepth 20000 in
theorem m_mch : f_Meets 4 (kX12_much S_spl S_fgr S_mst (S_sme 5) S_emt) S_mch := by
  intro G As M R hsp X hX hW
  match As, hsp with
  | [.ref 100, .int zk, .ref r], ⟨T, n, p, a, i, L, hG, hi, hr, hY, hC, hb, hsp⟩ =>
    subst hG; subst hr
    have hpn := hY.2.2.2.1
    have hn := hY.2.2.2.2.2.1
    have i4 : i < 4 := by omega
    have hk : ∀ v : Nat, zk - nI v = f_rsE (decide (i = 3), v) := fun v => by
      rcases hi with ⟨rfl, rfl⟩ | ⟨rfl, rfl⟩ <;> rfl
    refine f_run_ok (stop := fun q => Nat.beq q 5) hX 40 _ _ _ _ _ ?_
    refine ⟨T, n, p, a, 0, i, rfl, rfl, i4, hY, fun M1 he1 hY1 => ?_⟩
    refine f_run_ok (stop := fun q => Nat.beq q 10) hX 40 _ _ _ _ _ ?_
    refine ⟨T, n, _, a, _, 0, rfl, hY1, fun M2 he2 hY2 => ?_⟩
    rw [f_hd_fg (c := 0)] at hY2 ⊢
    have hhp := f_hdw_p (T := T) (n := n) (c := 0) (w := f_swd i) hpn
    unfold f_mc at hsp
    have he12 := he1.tr he2
    generalize f_hdw T n 0 (f_swd i) p = h at *
    obtain ⟨ok, x, c0, v⟩ := h
    have hY2 : f_YS M2 T n x a (!ok) 0 := hY2
    obtain ⟨x1, x2, x3, _⟩ := hhp
    have x1 : p ≤ x := x1
    have x2 : x ≤ n := x2
    show X f_GM 10 [some (.ref 100), some (.int zk), some (.ref (2000 + i)), some (.int (nI v))] [] M2
    have hsp : ∀ M', f_yq (f_zs a) M M' → f_YS M' T n (if ok = true then (if f_is T n x 32 = true then ((f_pe T n (f_pf T n 5) (x + 1) []).1, (f_pe T n (f_pf T n 5) (x + 1) []).2.1, v, (f_pe T n (f_pf T n 5) (x + 1) []).2.2) else (false, x, 0, [])) else (false, x, 0, [])).2.1 a (!(if ok = true then (if f_is T n x 32 = true then ((f_pe T n (f_pf T n 5) (x + 1) []).1, (f_pe T n (f_pf T n 5) (x + 1) []).2.1, v, (f_pe T n (f_pf T n 5) (x + 1) []).2.2) else (false, x, 0, [])) else (false, x, 0, [])).1) 0 → ((if ok = true then (if f_is T n x 32 = true then ((f_pe T n (f_pf T n 5) (x + 1) []).1, (f_pe T n (f_pf T n 5) (x + 1) []).2.1, v, (f_pe T n (f_pf T n 5) (x + 1) []).2.2) else (false, x, 0, [])) else (false, x, 0, [])).1 = true → f_YC M' a (L ++ (if ok = true then (if f_is T n x 32 = true then ((f_pe T n (f_pf T n 5) (x + 1) []).1, (f_pe T n (f_pf T n 5) (x + 1) []).2.1, v, (f_pe T n (f_pf T n 5) (x + 1) []).2.2) else (false, x, 0, [])) else (false, x, 0, [])).2.2.2.map f_rst ++ [f_rsE (decide (i = 3), (if ok = true then (if f_is T n x 32 = true then ((f_pe T n (f_pf T n 5) (x + 1) []).1, (f_pe T n (f_pf T n 5) (x + 1) []).2.1, v, (f_pe T n (f_pf T n 5) (x + 1) []).2.2) else (false, x, 0, [])) else (false, x, 0, [])).2.2.1)]) ∧ L.length + (if ok = true then (if f_is T n x 32 = true then ((f_pe T n (f_pf T n 5) (x + 1) []).1, (f_pe T n (f_pf T n 5) (x + 1) []).2.1, v, (f_pe T n (f_pf T n 5) (x + 1) []).2.2) else (false, x, 0, [])) else (false, x, 0, [])).2.2.2.length + 1 ≤ (if ok = true then (if f_is T n x 32 = true then ((f_pe T n (f_pf T n 5) (x + 1) []).1, (f_pe T n (f_pf T n 5) (x + 1) []).2.1, v, (f_pe T n (f_pf T n 5) (x + 1) []).2.2) else (false, x, 0, [])) else (false, x, 0, [])).2.1) → R f_GM none M' := hsp
    -- all wrong from here on
    have wrong : ∀ (M3 : fMem), f_em [1005, 1007] M M3 → f_YS M3 T n x a true 0 → (∀ M', f_yq (f_zs a) M M' → f_YS M' T n x a true 0 → R f_GM none M') → X f_GM 16 [some (.ref 100), some (.int zk), some (.ref (2000 + i)), some (.int (nI v))] [] M3 := by
      intro M3 he3 hY3 K
      refine f_run_ok (stop := fun q => false) hX 40 _ _ _ _ _ ?_
      refine ⟨T, n, x, a, true, 0, [], [], rfl, by omega, hY3, fun z => absurd z (by decide), fun _ => ?_⟩
      refine ⟨T, n, x, a, true, 0, [], rfl, hY3, fun z => absurd z (by decide), fun M4 hq4 hY4 _ => ?_⟩
      exact K M4 ((f_yq.of he3).tr hq4) hY4
    refine f_run_ok (stop := fun q => Nat.beq q 16) hX 40 _ _ _ _ _ ?_
    refine ⟨T, n, x, a, !ok, 0, 32, rfl, rfl, by omega, hY2, fun M3 he3 hY3 => ?_⟩
    have he13 := he12.tr he3
    cases ok with
    | false =>
      rw [if_neg (fun z => absurd z.1 (by decide))] at hY3
      refine wrong M3 he13 hY3 (fun M' hq hY' => hsp M' hq hY' (fun z => absurd z Bool.false_ne_true))
    | true =>
      by_cases h32 : f_is T n x 32 = true
      · rw [if_pos ⟨rfl, h32⟩, h32] at hY3
        rw [if_pos rfl, if_pos h32] at hsp
        have hgd := f_pe_good T n 5 (x + 1) [] (f_is_lt h32)
        have hC3 : f_YC M3 a (L ++ ([] : List Nat).map f_rst) := by
          rw [List.map_nil, List.append_nil]
          exact hC.of (he13.1 101 (by decide) (by decide))
        refine f_run_ok (stop := fun q => false) hX 40 _ _ _ _ _ ?_
        refine ⟨T, n, x + 1, a, false, 0, L, [], rfl, by omega, hY3, fun _ => ⟨rfl, hC3, by rw [List.length_nil]; omega, fun M4 hq4 hY4 hC4 => ?_⟩, fun z => absurd z (by decide)⟩
        have hY4 : f_YS M4 T n (f_pe T n (f_pf T n 5) (x + 1) []).2.1 a (!(f_pe T n (f_pf T n 5) (x + 1) []).1) 0 := hY4
        have hC4 : (f_pe T n (f_pf T n 5) (x + 1) []).1 = true → f_YC M4 a (L ++ (f_pe T n (f_pf T n 5) (x + 1) []).2.2.map f_rst) := hC4
        generalize f_pe T n (f_pf T n 5) (x + 1) [] = r at *
        have hgd3 : r.2.2.length + (x + 1) ≤ 0 + r.2.1 := hgd.2.2
        have hgd2 := hgd.2.1
        refine ⟨T, n, r.2.1, a, !r.1, 0, L ++ r.2.2.map f_rst, rfl, hY4, fun z => ⟨hC4 (by simpa using z), by rw [List.length_append, List.length_map]; omega⟩, fun M5 hq5 hY5 hC5 => ?_⟩
        refine hsp M5 (((f_yq.of he13).tr hq4).tr hq5) hY5 (fun z => ⟨?_, by show L.length + r.2.2.length + 1 ≤ r.2.1; omega⟩)
        have q : f_YC M5 a (L ++ r.2.2.map f_rst ++ [zk - nI v]) := hC5 (by rw [show r.1 = true from z]; rfl)
        rw [hk] at q
        exact q
      · rw [if_neg (fun z => h32 z.2), Bool.eq_false_iff.mpr h32] at hY3
        rw [if_pos rfl, if_neg h32] at hsp
        exact wrong M3 he13 hY3 (fun M' hq hY' => hsp M' hq hY' (fun z => absurd z Bool.false_ne_true))
def f_whr (i : Nat) : Nat := if i = 0 then 191 else 196
def S_tel : fSp := fun G As M R => match As with
  | [.ref 100, .int zk, .ref r] => ∃ (T : Nat → Nat) (n p a i : Nat), G = f_GM ∧ (i = 0 ∨ i = 1) ∧ zk = nI (f_whr i) ∧ r = 2000 + i ∧ f_YS M T n p a false 0 ∧ (∀ M', f_yq (fun k => k = f_whr i + a) M M' → f_YS M' T n (f_hdw T n 0 (f_swd i) p).2.1 a (!(f_hdw T n 0 (f_swd i) p).1) 0 → ((f_hdw T n 0 (f_swd i) p).1 = true → M'.1 101 (f_whr i + a) = nI (f_hdw T n 0 (f_swd i) p).2.2.2) → R G none M')
  | _ => False
set_option maxRecDepth 20000 in
theorem m_tel : f_Meets 4 (kX12_tellsHere S_spl S_fgr) S_tel := by
  intro G As M R hsp X hX hW
  match As, hsp with
  | [.ref 100, .int zk, .ref r], ⟨T, n, p, a, i, hG, hi, hzk, hr, hY, hsp⟩ =>
    subst hG; subst hr; subst hzk
    have hwr : f_whr i = 191 ∨ f_whr i = 196 := by
      unfold f_whr
      split
      · exact Or.inl rfl
      · exact Or.inr rfl
    refine f_run_ok (stop := fun q => Nat.beq q 5) hX 40 _ _ _ _ _ ?_
    refine ⟨T, n, p, a, 0, i, rfl, rfl, by omega, hY, fun M1 he1 hY1 => ?_⟩
    refine f_run_ok (stop := fun q => Nat.beq q 10) hX 40 _ _ _ _ _ ?_
    refine ⟨T, n, _, a, _, 0, rfl, hY1, fun M2 he2 hY2 => ?_⟩
    rw [f_hd_fg (c := 0)] at hY2 ⊢
    have he12 := he1.tr he2
    generalize f_hdw T n 0 (f_swd i) p = h at *
    obtain ⟨ok, x, c0, v⟩ := h
    have hY2 : f_YS M2 T n x a (!ok) 0 := hY2
    have h7 : M2.1 100 7 = f_b (!ok) := hY2.2.2.2.2.2.2.1
    have h4 : M2.1 100 4 = nI a := hY2.1
    have a5 : a < 5 := hY2.2.1
    show X f_GM 10 [some (.ref 100), some (.int (nI (f_whr i))), some (.ref (2000 + i)), some (.int (nI v))] [] M2
    obtain ⟨i1, i2⟩ := f_ix (z := nI (f_whr i) + M2.1 100 4) (k := f_whr i + a) (n := 906) (by rw [h4]; exact nI_add _ _) (by omega) (by omega)
    refine f_run_ok (stop := fun q => false) hX 40 _ _ _ _ _ ?_
    refine And.intro (fun z => ?_) (fun z => ?_)
    · have z : M2.1 100 7 = 0 := z
      rw [h7] at z
      have hok : ok = true := by simpa using f_b0.mp z
      subst hok
      refine And.intro i1 ?_
      show R f_GM none (f_up M2.1 101 (nI (f_whr i) + M2.1 100 4).toNatClampNeg (nI v), M2.2)
      rw [i2]
      refine hsp _ ⟨(he12.mono (by decide)).up (by decide), fun k hk => ?_⟩ ?_ (fun _ => by show f_up M2.1 101 (f_whr i + a) (nI v) 101 (f_whr i + a) = nI v; exact f_ups)
      · show f_up M2.1 101 (f_whr i + a) (nI v) 101 k = _
        rw [f_upo (fun e => hk e), he12.1 101 (by decide) (by decide)]
      · obtain ⟨a1, a2, a3, a4, a5, a6, a7, a8, a9, a10⟩ := hY2
        exact ⟨a1, a2, a3, a4, a5, a6, a7, a8, a9, fun j hj => ⟨(f_upo (by omega)).trans (a10 j hj).1, (a10 j hj).2⟩⟩
    · have z : ¬ M2.1 100 7 = 0 := z
      rw [h7] at z
      have hok : ok = false := by simpa using f_b_nt z
      subst hok
      exact hsp M2 (f_yq.of he12) hY2 (fun z => absurd z Bool.false_ne_true)
