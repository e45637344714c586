/-! ===== the reference: sumBy, likely, mean ===== -/
def f_SBL : List Nat := [103, 104, 105, 106, 107, 108, 109, 1011, 1012, 1017, 1019, 1020, 1021]
def S_sb : fSp := fun G As M R => match As with
  | [.ref 100, .int zb, .int zw, .int zn] => ∃ (y : fYd) (b kd v : Nat) (row : Nat → Nat) (wh n : Nat), G = f_GM ∧ f_MB M y b kd v row ∧ y.2.1 ≤ 3 ∧ zb = nI b ∧ zw = nI wh ∧ (wh < 7 ∨ wh = 9) ∧ zn = nI n ∧ n < 1000 ∧ (∀ M', f_em f_SBL M M' → R G (some (.long (lN (f_gn f_ew0 (f_may y.2.2 y.1 kd v row) y.2.1 (f_gq y.1 wh n) (fun _ => 0) 3 0 1 0)))) M')
  | _ => False
set_option maxRecDepth 20000 in
theorem m_sb : f_Meets 4 (kX12_sumBy (S_bk 3)) S_sb := by
  intro G As M R hsp X hX hW
  match As, hsp with
  | [.ref 100, .int zb, .int zw, .int zn], ⟨y, b, kd, v, row, wh, n, hG, hMB, hc3, hzb, hzw, hwh, hzn, hn, hsp⟩ =>
    subst hG; subst hzb; subst hzw; subst hzn
    have he0 : f_em f_SBL M (f_up (f_up M.1 100 19 (nI wh)) 100 20 (nI n), f_upL M.2 100 21 0) := ((f_em.rf.uf (k := 19) (v := nI wh) (by decide)).uf (k := 20) (v := nI n) (by decide)).ufL (k := 21) (v := 0) (by decide)
    refine f_run_ok (stop := fun q => Nat.beq q 23) hX 40 _ _ _ _ _ ?_
    refine ⟨y, b, kd, v, row, wh, n, 0, 1, 0, 0, rfl, hMB.cg (he0.1 101 (by decide) (by decide)), hc3, rfl, rfl, rfl, rfl, rfl, Nat.zero_le _, Nat.pow_pos (by decide), Nat.zero_testBit 0, rfl, hwh, rfl, hn, rfl, fun M3 he3 m21 => ?_⟩
    refine f_run_ok (stop := fun q => false) hX 40 _ _ _ _ _ ?_
    rw [Nat.zero_add] at m21
    exact f_fin (hsp M3 (he0.tr (he3.mono (by decide)))) (congrArg (fun z => some (Value.long z)) m21.symm) rfl
theorem f_RM.sb {s : fSt} {M : fMem} {b wh n : Nat} {R : fR} (hR : f_RM s M) (hS : f_SW s) (hb : b < 6) {zw zn : Int32} (hzw : zw = nI wh) (hwh : wh < 7 ∨ wh = 9) (hzn : zn = nI n) (hn : n < 1000) (hk : ∀ (M' : fMem) (t : Nat), f_RM s M' → t * f_tot (f_mb s.1 b) = f_wsum (f_dpc s.1 b).1 (f_gq s.1.2.2.1 wh n) 697 * f_alp s.1.2.2.2.1 → R f_GM (some (.long (lN t))) M') : S_sb f_GM [.ref 100, .int (nI b), .int zw, .int zn] M R :=
  ⟨s.1.2.2, b, _, _, _, wh, n, rfl, hR.mb hS hb, hS.c3, rfl, hzw, hwh, hzn, hn, fun M' he => hk M' _ (hR.em he (by decide)) (f_gn_ends hS.c1 hS.c3 (fun S => f_mb_lt hS b S) (fun T x hx => ⟨(f_may_new hx).1, (f_may_new hx).2.1⟩))⟩
theorem f_gq_le {L wh n S : Nat} (hL : L ≤ 17) : f_gq L wh n S ≤ 17 := by
  unfold f_gq
  split
  · have hmem : ∀ x ∈ f_shp L S, x ≤ 17 := fun x hx => by
      have h1 : ∀ (l a : List Nat), x ∈ l.foldl (fun a x => f_ins x a) a → x ∈ l ∨ x ∈ a := by
        intro l
        induction l with
        | nil => intro a h; exact Or.inr h
        | cons y l ih =>
          intro a h
          rcases ih _ h with h | h
          · exact Or.inl (List.mem_cons_of_mem _ h)
          · rcases f_ins_mem a h with h | h
            · exact Or.inl (h ▸ List.mem_cons_self)
            · exact Or.inr h
      rcases h1 _ _ hx with h | h
      · obtain ⟨q, hq, rfl⟩ := List.mem_map.mp h
        have := f_pcs_le L S L 1 0 (by omega) q hq
        omega
      · simp at h
    by_cases hlt : n < (f_shp L S).length
    · rw [List.getD_eq_getElem?_getD, List.getElem?_eq_getElem hlt]
      exact hmem _ (List.getElem_mem hlt)
    · rw [List.getD_eq_getElem?_getD, List.getElem?_eq_none (by omega)]
      exact Nat.zero_le _
  · split <;> omega
theorem f_wsq_le {s : fSt} (hS : f_SW s) (b wh n : Nat) : f_wsum (f_dpc s.1 b).1 (f_gq s.1.2.2.1 wh n) 697 ≤ 17 * f_tot (f_mb s.1 b) := by
  have h1 := f_wsum_le (w := (f_dpc s.1 b).1) (g := f_gq s.1.2.2.1 wh n) (b := 17) (fun S => f_gq_le hS.L17) 697
  have h2 := f_dp_sum (may := f_mb s.1 b) (pr := f_price s.1.2.2.2.2 s.1.2.2.1 (s.1.1 1 b)) (T := f_tot (f_mb s.1 b)) hS.c3 (fun S => f_mb_lt hS b S) _ (Nat.le_refl _)
  exact Nat.le_trans h1 (Nat.mul_le_mul_left _ h2)
theorem f_alp_b17 {c : Nat} (h3 : c ≤ 3) : 0 < f_alp c ∧ 17 * f_alp c < 2 ^ 63 := by
  have : ∀ c, c ≤ 3 → 0 < f_alp c ∧ 17 * f_alp c < 2 ^ 63 := by decide +kernel
  exact this c h3
theorem f_t_b {s : fSt} (hS : f_SW s) {b wh n t : Nat} (h : t * f_tot (f_mb s.1 b) = f_wsum (f_dpc s.1 b).1 (f_gq s.1.2.2.1 wh n) 697 * f_alp s.1.2.2.2.1) : t < 2 ^ 63 := by
  have h1 := f_wsq_le hS b wh n
  have h2 := f_alp_b17 hS.c3
  have h3 := (f_tot_b (c := s.1) (b := b)).1
  have h4 : t ≤ 17 * f_alp s.1.2.2.2.1 := by
    refine Nat.le_of_mul_le_mul_right (c := f_tot (f_mb s.1 b)) ?_ h3
    rw [h, Nat.mul_assoc, Nat.mul_comm (f_alp _), ← Nat.mul_assoc]
    exact Nat.mul_le_mul_right _ h1
  omega
theorem f_ptM {p : Int32} : f_pt1 p = decide (0 ≤ p ∧ p ≤ 1) := by
  unfold f_pt1
  refine decide_eq_decide.mpr ⟨fun z => ?_, fun z => ?_⟩
  · rcases z with z | z <;> (rw [z]; decide)
  · obtain ⟨P, hPb, rfl⟩ := nI_of (x := p) (Int32.not_lt.mpr z.1)
    have := (nI_leI (b := 1) hPb (by omega)).mp z.2
    have : P = 0 ∨ P = 1 := by omega
    rcases this with rfl | rfl
    · exact Or.inl rfl
    · exact Or.inr rfl
set_option maxRecDepth 20000 in
theorem m_y_likely : f_Meets 5 (kX12_likely S_yB S_in S_sb S_all S_partOf) (f_y4 p_likely) := by
  intro G As M R hsp X hX hW
  match As, hsp with
  | [.ref 100, .int b, .int w, .int n, .int p], ⟨s, hG, hS, hR, hsp⟩ =>
    subst hG
    unfold p_likely at hsp
    have bad : (f_ng b s = false ∨ w < 0 ∨ 6 < w ∨ n < 0 ∨ 99 < n ∨ f_pt1 p = false) → X f_GM 38 [some (.ref 100), some (.int b), some (.int w), some (.int n), some (.int p)] [] M := by
      intro h
      rw [if_pos h] at hsp
      exact f_run_ok (stop := fun _ => false) hX 10 _ _ _ _ _ (hsp M hR)
    refine f_run_ok (stop := fun q => Nat.beq q 38 || Nat.beq q 42) hX 60 _ _ _ _ _ ?_
    refine ⟨s.1.1 0 0, rfl, by have := hS.nb; omega, hR.nb, ?_⟩
    rw [f_ngM]
    cases hb : f_ng b s with
    | false => exact And.intro (fun _ => bad (Or.inl hb)) (fun z => absurd rfl z)
    | true =>
      obtain ⟨b1, b2, b3⟩ := f_ng_t hS hb
      refine And.intro (fun z => absurd z (by decide)) (fun _ => ?_)
      refine And.intro (fun h => bad (Or.inr ((f_inN h).elim Or.inl (fun z => Or.inr (Or.inl z))))) (fun h => ?_)
      have h := f_inY h
      refine And.intro (fun h2 => bad (Or.inr (Or.inr (Or.inr ((f_inN h2).elim Or.inl (fun z => Or.inr (Or.inl z))))))) (fun h2 => ?_)
      have h2 := f_inY h2
      refine And.intro (fun hz => ?_) (fun hz => ?_)
      · have hz : f_b (decide (0 ≤ p ∧ p ≤ 1)) = 0 := hz
        rw [← f_ptM] at hz
        exact bad (Or.inr (Or.inr (Or.inr (Or.inr (Or.inr (f_b0.mp hz))))))
      have hz : ¬ f_b (decide (0 ≤ p ∧ p ≤ 1)) = 0 := hz
      rw [← f_ptM] at hz
      have hp : f_pt1 p = true := f_b_nt hz
      rw [if_neg (by rw [hp, hb]; exact fun z => z.elim (by decide) (fun z => z.elim (Int32.not_lt.mpr h.1) (fun z => z.elim (Int32.not_lt.mpr h.2) (fun z => z.elim (Int32.not_lt.mpr h2.1) (fun z => z.elim (Int32.not_lt.mpr h2.2) (by decide))))))] at hsp
      clear bad
      have hw6 := f_nle (k := 6) h.1 h.2 (by omega)
      have hn99 := f_nle (k := 99) h2.1 h2.2 (by omega)
      generalize f_n b = B at *
      subst b3
      refine f_run_ok (stop := fun q => Nat.beq q 49) hX 40 _ _ _ _ _ ?_
      obtain ⟨a1, a2, a3, a4, a5, a6, a7, a8, a9, a10, a11, a12, a13, a14, a15, a16⟩ := hR.sb (R := fun G' v M' => X G' 49 [some (.ref 100), some (.int (nI B)), some (.int w), some (.int n), some (.int p)] (f_ans v []) M') hS b2 (wh := f_n w) (n := f_n n) (zw := w) (zn := n) (f_nn h.1).symm (by omega) (f_nn h2.1).symm (by omega) (fun M1 t r1 ht => by
        obtain ⟨d1, d2⟩ := f_alp_b hS.c3
        have htb := f_t_b hS ht
        have hres := hsp M1 r1
        have eg : f_gq s.1.2.2.1 (f_n w) (f_n n) = fun S => if f_fit (f_shp s.1.2.2.1 S) s.1.2.2.1 (f_n w) (f_n n) = true then 1 else 0 := funext (fun S => if_neg (by omega))
        rw [eg] at ht
        rw [f_part_cg (f_tot_b (c := s.1) (b := B)).1 d1 ht.symm p] at hres
        refine f_run_ok (stop := fun q => Nat.beq q 53) hX 40 _ _ _ _ _ ?_
        refine ⟨s.1.2.2, rfl, r1.hr, hS.c3, ?_⟩
        show X f_GM 53 [some (.ref 100), some (.int (nI B)), some (.int w), some (.int n), some (.int p)] [.long (lN (f_alp s.1.2.2.2.1)), .long (lN t)] M1
        obtain ⟨y1, y2, y3⟩ := f_pof (p := p) (R := R) (u := t) (v := f_alp s.1.2.2.2.1) htb d1 (by omega) hres
        refine f_run_ok (stop := fun q => false) hX 40 _ _ _ _ _ ?_
        exact ⟨y1, y2, y3⟩)
      exact ⟨a1, a2, a3, a4, a5, a6, a7, a8, a9, a10, a11, a12, a13, a14, a15, a16⟩
set_option maxRecDepth 20000 in
theorem m_y_mean : f_Meets 4 (kX12_mean S_yB S_in S_sb S_all S_partOf) (f_y3 p_mean) := by
  intro G As M R hsp X hX hW
  match As, hsp with
  | [.ref 100, .int b, .int k, .int p], ⟨s, hG, hS, hR, hsp⟩ =>
    subst hG
    unfold p_mean at hsp
    have bad : (f_ng b s = false ∨ k < 0 ∨ 3 < k ∨ f_pt1 p = false) → X f_GM 26 [some (.ref 100), some (.int b), some (.int k), some (.int p)] [] M := by
      intro h
      rw [if_pos h] at hsp
      exact f_run_ok (stop := fun _ => false) hX 10 _ _ _ _ _ (hsp M hR)
    refine f_run_ok (stop := fun q => Nat.beq q 26 || Nat.beq q 30) hX 60 _ _ _ _ _ ?_
    refine ⟨s.1.1 0 0, rfl, by have := hS.nb; omega, hR.nb, ?_⟩
    rw [f_ngM]
    cases hb : f_ng b s with
    | false => exact And.intro (fun _ => bad (Or.inl hb)) (fun z => absurd rfl z)
    | true =>
      obtain ⟨b1, b2, b3⟩ := f_ng_t hS hb
      refine And.intro (fun z => absurd z (by decide)) (fun _ => ?_)
      refine And.intro (fun h => bad (Or.inr ((f_inN h).elim Or.inl (fun z => Or.inr (Or.inl z))))) (fun h => ?_)
      have h := f_inY h
      refine And.intro (fun hz => ?_) (fun hz => ?_)
      · have hz : f_b (decide (0 ≤ p ∧ p ≤ 1)) = 0 := hz
        rw [← f_ptM] at hz
        exact bad (Or.inr (Or.inr (Or.inr (f_b0.mp hz))))
      have hz : ¬ f_b (decide (0 ≤ p ∧ p ≤ 1)) = 0 := hz
      rw [← f_ptM] at hz
      have hp : f_pt1 p = true := f_b_nt hz
      rw [if_neg (by rw [hp, hb]; exact fun z => z.elim (by decide) (fun z => z.elim (Int32.not_lt.mpr h.1) (fun z => z.elim (Int32.not_lt.mpr h.2) (by decide))))] at hsp
      clear bad
      have hk3 := f_nle (k := 3) h.1 h.2 (by omega)
      generalize f_n b = B at *
      subst b3
      refine f_run_ok (stop := fun q => Nat.beq q 38) hX 40 _ _ _ _ _ ?_
      obtain ⟨a1, a2, a3, a4, a5, a6, a7, a8, a9, a10, a11, a12, a13, a14, a15, a16⟩ := hR.sb (R := fun G' v M' => X G' 38 [some (.ref 100), some (.int (nI B)), some (.int k), some (.int p)] (f_ans v []) M') hS b2 (wh := 9) (n := f_n k) (zw := 9) (zn := k) rfl (Or.inr rfl) (f_nn h.1).symm (by omega) (fun M1 t r1 ht => by
        obtain ⟨d1, d2⟩ := f_alp_b hS.c3
        have htb := f_t_b hS ht
        have hres := hsp M1 r1
        have eg : f_gq s.1.2.2.1 9 (f_n k) = fun S => (f_shp s.1.2.2.1 S).getD (f_n k) 0 := rfl
        rw [eg] at ht
        rw [f_part_cg (f_tot_b (c := s.1) (b := B)).1 d1 ht.symm p] at hres
        refine f_run_ok (stop := fun q => Nat.beq q 42) hX 40 _ _ _ _ _ ?_
        refine ⟨s.1.2.2, rfl, r1.hr, hS.c3, ?_⟩
        show X f_GM 42 [some (.ref 100), some (.int (nI B)), some (.int k), some (.int p)] [.long (lN (f_alp s.1.2.2.2.1)), .long (lN t)] M1
        obtain ⟨y1, y2, y3⟩ := f_pof (p := p) (R := R) (u := t) (v := f_alp s.1.2.2.2.1) htb d1 (by omega) hres
        refine f_run_ok (stop := fun q => false) hX 40 _ _ _ _ _ ?_
        exact ⟨y1, y2, y3⟩)
      exact ⟨a1, a2, a3, a4, a5, a6, a7, a8, a9, a10, a11, a12, a13, a14, a15, a16⟩
