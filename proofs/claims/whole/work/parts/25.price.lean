def f_prt (q : fRl) (f t c k ins : Nat) : Nat := if q.1 = true then q.2.1 * f_pc (f_hb q.2.2 f t c k &&& ins) else 0
def f_prs (rs : List fRl) (f t c k ins : Nat) : Nat := (rs.map (fun q => f_prt q f t c k ins)).sum
def f_prc (rs : List fRl) (f t c k N : Nat) : Nat := f_prs rs f t c k (N &&& f_inb f t)
theorem f_cnt_0 : ∀ n, f_cnt n (fun x => (0 : Nat).testBit x) = 0 := by
  intro n
  induction n with
  | zero => rfl
  | succ n ih => show f_cnt n _ + _ = 0; rw [ih]; simp
theorem f_prs_0 (rs : List fRl) (f t c k : Nat) : f_prs rs f t c k 0 = 0 := by
  unfold f_prs
  induction rs with
  | nil => rfl
  | cons q rs ih =>
    rw [List.map_cons, List.sum_cons, ih]
    unfold f_prt
    rw [Nat.and_zero]
    show (if q.1 = true then q.2.1 * f_pc 0 else 0) + 0 = 0
    have : f_pc 0 = 0 := f_cnt_0 17
    rw [this]
    simp
theorem f_prs_le (rs : List fRl) (f t c k ins : Nat) (h : ∀ q ∈ rs, q.2.1 < 100) : f_prs rs f t c k ins ≤ rs.length * 1700 := by
  unfold f_prs
  induction rs with
  | nil => exact Nat.le_refl _
  | cons q rs ih =>
    rw [List.map_cons, List.sum_cons, List.length_cons]
    have h1 := ih (fun q hq => h q (List.mem_cons_of_mem _ hq))
    have h2 : f_prt q f t c k ins ≤ 1700 := by
      unfold f_prt
      split
      · have a := h q List.mem_cons_self
        have b : f_pc (f_hb q.2.2 f t c k &&& ins) ≤ 17 := f_cnt_le _ 17
        exact Nat.le_trans (Nat.mul_le_mul (Nat.le_of_lt a) b) (by decide)
      · exact Nat.zero_le _
    omega
def S_prJ : fSp := fun G As M R => match As with
  | [.ref 37, .int z] => ∃ (rs : List fRl) (f t c k N : Nat), G = f_GX ∧ f_YR M 5 rs ∧ f_JD M f t c k ∧ z = nI N ∧ N < 2 ^ 17 ∧ (∀ M', f_ex [38] [] M M' → R G (some (.int (nI (f_prc rs f t c k N)))) M')
  | _ => False
set_option maxRecDepth 20000 in
theorem m_prJ : f_Meets 5 (kX3_priceOf S_inner S_at S_holding S_bitCount) S_prJ := by
  intro G As M R hsp X hX hW
  match As, hsp with
  | [.ref 37, .int z], ⟨rs, f, t, c, k, N, hG, hY, hJ, hz, hN, hsp⟩ =>
    subst hG; subst hz
    obtain ⟨y1, y2, y3, y4⟩ := id hY
    have ht17 := hJ.2.1
    have hib : f_inb f t < 2 ^ 17 := Nat.lt_of_lt_of_le (f_bits_lt _ _) (Nat.pow_le_pow_right (by decide) ht17)
    have hins : N &&& f_inb f t < 2 ^ 17 := Nat.lt_of_le_of_lt Nat.and_le_left hN
    unfold f_prc at hsp
    have h100 : ∀ q ∈ rs, q.2.1 < 100 := fun q hq => by
      obtain ⟨r, hr⟩ := List.getElem?_of_mem hq
      exact (y4 r q hr).2.2.1
    generalize hI : N &&& f_inb f t = I at *
    have loop : ∀ (n r : Nat) (M' : fMem), r + n = rs.length → f_ex [38] [] M M' → X f_GX 12 [some (.ref 37), some (.int (nI N)), some (.int (nI (f_prs (rs.take r) f t c k I))), some (.int (nI I)), some (.int (nI r))] [] M' := by
      intro n
      induction n with
      | zero =>
        intro r M' hr he
        refine f_run_ok (stop := fun q => Nat.beq q 12) hX 30 _ _ _ _ _ ?_
        refine And.intro (fun h => ?_) (fun h => ?_)
        · exact f_fin (hsp M' he) (by rw [show r = rs.length by omega, List.take_length]) rfl
        · refine absurd ?_ h
          show M'.1 5 2 ≤ nI r
          rw [he.1 5 (by decide), y3]
          exact nI_le (by omega) (by omega)
      | succ n ih =>
        intro r M' hr he
        obtain ⟨q, hq⟩ : ∃ q, rs[r]? = some q := ⟨rs[r], List.getElem?_eq_getElem (by omega)⟩
        obtain ⟨d1, d2, d3, d4, d5, d6⟩ := y4 r q hq
        have hY' := hY.ex he (by decide) (by decide) (by decide) (by decide) (by decide)
        have hJ' := hJ.ex he (by decide)
        have tk : rs.take (r + 1) = rs.take r ++ [q] := by rw [List.take_add_one, hq]; rfl
        have es : f_prs (rs.take (r + 1)) f t c k I = f_prs (rs.take r) f t c k I + f_prt q f t c k I := by
          unfold f_prs; rw [tk, List.map_append, List.sum_append]; simp
        have e1 : f_at (10, M'.1 6) (nI r) = f_b q.1 := by
          rw [f_at_in (t := (10, M'.1 6)) (j := r) (by show r < 10; omega) (by show 10 < _; decide)]
          show M'.1 6 r = _
          rw [he.1 6 (by decide)]; exact d1
        have e2 : f_at (10, M'.1 7) (nI r) = nI q.2.1 := by
          rw [f_at_in (t := (10, M'.1 7)) (j := r) (by show r < 10; omega) (by show 10 < _; decide)]
          show M'.1 7 r = _
          rw [he.1 7 (by decide)]; exact d2
        refine f_run_ok (stop := fun q => Nat.beq q 12 || Nat.beq q 57) hX 40 _ _ _ _ _ ?_
        refine And.intro (fun h => ?_) (fun h => ?_)
        · have h : M'.1 5 2 ≤ nI r := h
          rw [he.1 5 (by decide), y3] at h
          have := (nI_leI (by omega) (by omega)).mp h
          omega
        · refine And.intro (fun h2 => ?_) (fun h2 => ?_)
          · have h2 : I = 0 := (nI_eq (b := 0) (by omega) (by omega)).mp h2
            exact f_fin (hsp M' he) (by rw [h2, f_prs_0, f_prs_0]) rfl
          · refine And.intro (fun h3 => ?_) (fun h3 => ?_)
            · have h3 : f_at (10, M'.1 6) (nI r) = 1 := h3
              rw [e1] at h3
              have hq1 := f_b1.mp h3
              show X f_GX 57 [some (.ref 37), some (.int (nI N)), some (.int (nI (f_prs (rs.take r) f t c k I))), some (.int (nI I)), some (.int (nI r))] [.int (f_at (10, M'.1 7) (nI r)), .int (nI (f_prs (rs.take r) f t c k I))] M'
              rw [e2]
              refine f_run_ok (stop := fun q => Nat.beq q 12 || Nat.beq q 65) hX 40 _ _ _ _ _ ?_
              refine ⟨rs, r, q, f, t, c, k, rfl, rfl, hq, hY', hJ', fun M2 he2 => ?_⟩
              show X f_GX 65 [some (.ref 37), some (.int (nI N)), some (.int (nI (f_prs (rs.take r) f t c k I))), some (.int (nI I)), some (.int (nI r))] [.int (nI (f_hb q.2.2 f t c k) &&& nI I), .int (nI q.2.1), .int (nI (f_prs (rs.take r) f t c k I))] M2
              rw [fa_and]
              refine f_run_ok (stop := fun q => Nat.beq q 12) hX 40 _ _ _ _ _ ?_
              refine ⟨f_hb q.2.2 f t c k &&& I, rfl, Nat.lt_of_le_of_lt Nat.and_le_right hins, ?_⟩
              have := ih (r + 1) M2 (by omega) (he.tr he2)
              rw [es, nI_succ] at this
              unfold f_prt at this
              rw [if_pos hq1, ← nI_add, ← pk_mul] at this
              exact this
            · have h3 : ¬ f_at (10, M'.1 6) (nI r) = 1 := h3
              rw [e1] at h3
              have hq1 : ¬ q.1 = true := fun z => h3 (f_b1.mpr z)
              have := ih (r + 1) M' (by omega) he
              rw [es, nI_succ] at this
              unfold f_prt at this
              rw [if_neg hq1, Nat.add_zero] at this
              exact this
    refine f_run_ok (stop := fun q => Nat.beq q 7) hX 30 _ _ _ _ _ ?_
    refine ⟨f, t, c, k, rfl, hJ, ?_⟩
    show X f_GX 7 [some (.ref 37), some (.int (nI N)), some (.int 0), none, none] [.int (nI (f_inb f t)), .int (nI N)] M
    refine f_run_ok (stop := fun q => Nat.beq q 12) hX 30 _ _ _ _ _ ?_
    have := loop rs.length 0 M (by omega) f_ex.rf
    rw [← hI, ← fa_and] at this
    exact this
def f_price (rs : List fRl) (L kd br N : Nat) : Nat := ((f_pcs L br L 1 0).map (fun q => f_prc rs q.1 q.2 (f_pc br) kd N)).sum
theorem f_sum_le {α : Type} (l : List α) (g : α → Nat) (b : Nat) (h : ∀ q ∈ l, g q ≤ b) : (l.map g).sum ≤ l.length * b := by
  induction l with
  | nil => exact Nat.le_of_eq (by simp)
  | cons q l ih =>
    rw [List.map_cons, List.sum_cons, List.length_cons, Nat.add_mul, Nat.one_mul]
    have h1 := ih (fun q hq => h q (List.mem_cons_of_mem _ hq))
    have h2 := h q List.mem_cons_self
    omega
def S_pr : fSp := fun G As M R => match As with
  | [.ref 33, .int z, .int zb, .int zn] => ∃ (rs : List fRl) (L b kd v : Nat) (row : Nat → Nat) (br N : Nat), G = f_GX ∧ z = nI b ∧ zb = nI br ∧ br < 2 ^ 17 ∧ zn = nI N ∧ N < 2 ^ 17 ∧ f_YH M L rs ∧ f_BK M b kd v row ∧ (∀ M', f_ex f_CS [] M M' → R G (some (.int (nI (f_price rs L kd br N)))) M')
  | _ => False
theorem f_prs_nil (f t c k N : Nat) : f_prc [] f t c k N = 0 := rfl
theorem f_sum_zero {α : Type} (l : List α) : (l.map (fun _ => 0)).sum = 0 := by
  induction l with
  | nil => rfl
  | cons q l ih => rw [List.map_cons, List.sum_cons, ih]
set_option maxRecDepth 20000 in
theorem m_pr : f_Meets 7 (kX1_priceOf S_hasBit S_bitCount S_at S_look S_prJ) S_pr := by
  intro G As M R hsp X hX hW
  match As, hsp with
  | [.ref 33, .int z, .int zb, .int zn], ⟨rs, L, b, kd, v, row, br, N, hG, hz, hzb, hbr, hzn, hN, hY, hBK, hsp⟩ =>
    subst hG; subst hz; subst hzb; subst hzn
    have hL1 := hY.2.2.1
    have hL17 := hY.2.2.2
    have hYl := hY.2.1
    have hYr := hY.1.2.2.1
    have hc17 : f_pc br ≤ 17 := f_cnt_le _ 17
    unfold f_price at hsp
    generalize hP : f_pcs L br L 1 0 = P at *
    generalize hc : f_pc br = c at *
    have loop : ∀ (n p f : Nat) (dn : List (Nat × Nat)) (M' : fMem), p + n = L + 1 → f < p → 1 ≤ p → P = dn ++ f_pcs L br n p f → f_ex f_CS [] M M' → X f_GX 9 [some (.ref 33), some (.int (nI b)), some (.int (nI br)), some (.int (nI N)), some (.int (nI f)), some (.int (nI (dn.map (fun q => f_prc rs q.1 q.2 c kd N)).sum)), some (.int (nI p))] [] M' := by
      intro n
      induction n with
      | zero =>
        intro p f dn M' hp hfp hp1 hPd he
        have hPd : P = dn := by rw [hPd]; simp [f_pcs]
        subst hPd
        refine f_run_ok (stop := fun q => Nat.beq q 9) hX 30 _ _ _ _ _ ?_
        refine And.intro (fun h => ?_) (fun h => ?_)
        · exact hsp M' he
        · refine absurd ?_ h
          show M'.1 5 0 < nI p
          rw [he.1 5 (by decide), hYl]
          exact nI_lt (by omega) (by omega)
      | succ n ih =>
        intro p f dn M' hp hfp hp1 hPd he
        have hBK' := hBK.ex he (by decide) (by decide) (by decide)
        have hY' := hY.ex he (by decide) (by decide) (by decide) (by decide) (by decide)
        have piece : (p = L ∨ br.testBit p = true) → X f_GX 61 [some (.ref 33), some (.int (nI b)), some (.int (nI br)), some (.int (nI N)), some (.int (nI f)), some (.int (nI (dn.map (fun q => f_prc rs q.1 q.2 c kd N)).sum)), some (.int (nI p))] [] M' := by
          intro hpl
          have hPd2 : P = (dn ++ [(f, p)]) ++ f_pcs L br n (p + 1) p := by
            rw [hPd]
            show dn ++ (if p = L ∨ br.testBit p = true then (f, p) :: f_pcs L br n (p + 1) p else f_pcs L br n (p + 1) f) = _
            rw [if_pos hpl, List.append_assoc]; rfl
          obtain ⟨b6, k7, v10, b1, b2, b3⟩ := hBK'
          have e1 : f_at (6, M'.1 2) (nI b) = nI kd := by
            rw [f_at_in (t := (6, M'.1 2)) (j := b) (by show b < 6; omega) (by show 6 < _; decide)]; exact b1
          have q84 : X f_GX 84 [some (.ref 33), some (.int (nI b)), some (.int (nI br)), some (.int (nI N)), some (.int (nI f)), some (.int (nI (dn.map (fun q => f_prc rs q.1 q.2 c kd N)).sum)), some (.int (nI p))] [.int (nI kd), .int (nI c), .int (nI p), .int (nI f), .ref 37] M' := by
            refine f_run_ok (stop := fun q => Nat.beq q 9) hX 40 _ _ _ _ _ ?_
            refine And.intro rfl ?_
            refine ⟨rs, f, p, c, kd, N, rfl, ?_, ?_, rfl, hN, fun M2 he2 => ?_⟩
            · exact hY'.1.ex ((((f_ex.rf (cs := f_CS) (ds := [])).up (c := 37) (by decide)).up (c := 37) (by decide)).up (c := 37) (by decide) |>.up (c := 37) (by decide)) (by decide) (by decide) (by decide) (by decide) (by decide)
            · refine ⟨hfp, by omega, by omega, by omega, ?_, ?_, ?_, ?_⟩ <;> simp [f_up]
            · have he3 : f_ex f_CS [] M M2 := by
                refine he.tr (f_ex.tr (M1 := (f_up (f_up (f_up (f_up M'.1 37 1 (nI f)) 37 2 (nI p)) 37 3 (nI c)) 37 4 (nI kd), M'.2)) ?_ (he2.mono (by decide) (by decide)))
                exact ((((f_ex.rf (cs := f_CS) (ds := [])).up (c := 37) (by decide)).up (c := 37) (by decide)).up (c := 37) (by decide) |>.up (c := 37) (by decide))
              have := ih (p + 1) p (dn ++ [(f, p)]) M2 (by omega) (by omega) (by omega) hPd2 he3
              rw [List.map_append, List.sum_append, nI_succ, ← nI_add] at this
              simp only [List.map_cons, List.map_nil, List.sum_cons, List.sum_nil, Nat.add_zero] at this
              exact this
          rw [← e1] at q84
          have q81 : X f_GX 81 [some (.ref 33), some (.int (nI b)), some (.int (nI br)), some (.int (nI N)), some (.int (nI f)), some (.int (nI (dn.map (fun q => f_prc rs q.1 q.2 c kd N)).sum)), some (.int (nI p))] [.int (nI b), .ref 2, .int (nI c), .int (nI p), .int (nI f), .ref 37] M' := by
            refine f_run_ok (stop := fun q => Nat.beq q 84) hX 5 _ _ _ _ _ ?_
            exact q84
          refine f_run_ok (stop := fun q => Nat.beq q 81) hX 40 _ _ _ _ _ ?_
          refine ⟨br, rfl, hbr, ?_⟩
          rw [hc]
          exact q81
        refine f_run_ok (stop := fun q => Nat.beq q 9 || Nat.beq q 61) hX 40 _ _ _ _ _ ?_
        refine And.intro (fun h => ?_) (fun h => ?_)
        · have h : M'.1 5 0 < nI p := h
          rw [he.1 5 (by decide), hYl] at h
          have := (nI_ltI (by omega) (by omega)).mp h
          omega
        · refine And.intro (fun h0 => ?_) (fun h0 => ?_)
          · have h0 : M'.1 5 2 ≤ 0 := h0
            rw [he.1 5 (by decide), hYr] at h0
            have h0 := (nI_leI (b := 0) (by have := hY.1.1; omega) (by omega)).mp h0
            have hrs : rs = [] := List.eq_nil_of_length_eq_zero (by omega)
            refine f_fin (hsp M' he) ?_ rfl
            subst hrs
            have z : ∀ l : List (Nat × Nat), (l.map (fun q => f_prc [] q.1 q.2 c kd N)).sum = 0 := fun l => f_sum_zero l
            rw [z, z]
          · refine And.intro (fun h2 => ?_) (fun h2 => ?_)
            · have h2 : nI p = M'.1 5 0 := h2
              rw [he.1 5 (by decide), hYl] at h2
              exact piece (Or.inl ((nI_eq (by omega) (by omega)).mp h2))
            · have h2 : ¬ p = L := fun z => h2 (by show nI p = M'.1 5 0; rw [he.1 5 (by decide), hYl, z])
              refine And.intro (fun h3 => ?_) (fun h3 => ?_)
              · have h3 := f_b0.mp h3
                rw [n_bit (by omega) (by omega)] at h3
                have := ih (p + 1) f dn M' (by omega) (by omega) (by omega) (by
                  rw [hPd]
                  show dn ++ (if p = L ∨ br.testBit p = true then (f, p) :: f_pcs L br n (p + 1) p else f_pcs L br n (p + 1) f) = _
                  rw [if_neg (by rw [h3]; simp [h2])]) he
                rw [nI_succ] at this
                exact this
              · have h3 : br.testBit p = true := by
                  cases hb : br.testBit p with
                  | true => rfl
                  | false => exact absurd (f_b0.mpr (by rw [n_bit (by omega) (by omega)]; exact hb)) h3
                exact piece (Or.inr h3)
    refine f_run_ok (stop := fun q => Nat.beq q 9) hX 40 _ _ _ _ _ ?_
    exact loop L 1 0 [] M (by omega) (by omega) (by omega) (by rw [List.nil_append]; exact hP.symm) f_ex.rf
