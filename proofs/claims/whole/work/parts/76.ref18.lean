/-! ===== the reference: mayOf; prices ===== -/
theorem f_ops_nil {rs : List fRl} {c kd : Nat} : ∀ ps : List (Nat × Nat), (f_ops rs c kd ps).length = 0 → ∀ q ∈ ps, f_frb rs q.1 q.2 c kd = 0 := by
  intro ps
  induction ps with
  | nil => intro _ q hq; simp at hq
  | cons a l ih =>
    intro h q hq
    rw [f_ops_cons, List.length_append] at h
    rcases List.mem_cons.mp hq with e | e
    · subst e
      unfold f_opq at h
      by_cases hz : f_frb rs q.1 q.2 c kd = 0
      · exact hz
      · rw [if_neg hz] at h
        simp at h
    · exact ih (by omega) q e
theorem f_alls_0 {rs : List fRl} {c kd : Nat} : ∀ ps : List (Nat × Nat), (∀ q ∈ ps, f_frb rs q.1 q.2 c kd = 0) → f_alls rs c kd ps = 0 := by
  have : ∀ (ps : List (Nat × Nat)) (a : Nat), (∀ q ∈ ps, f_frb rs q.1 q.2 c kd = 0) → ps.foldl (fun a q => a ||| f_frb rs q.1 q.2 c kd) a = a := by
    intro ps
    induction ps with
    | nil => intro a _; rfl
    | cons q l ih =>
      intro a h
      rw [List.foldl_cons, h q List.mem_cons_self, Nat.or_zero]
      exact ih a (fun q hq => h q (List.mem_cons_of_mem _ hq))
  exact fun ps h => this ps 0 h
theorem f_inm_far {rs : List fRl} {c kd : Nat} {ps : List (Nat × Nat)} (hord : ∀ (k j : Nat) (q r : Nat × Nat), k < j → ps[k]? = some q → ps[j]? = some r → q.2 ≤ r.1) {o : fOp} (ho : o ∈ f_ops rs c kd ps) : f_inm ps o.2.2 = f_far o := by
  obtain ⟨q, hq, hqe⟩ := List.mem_filterMap.mp ho
  split at hqe
  · cases hqe
  · have hqe := Option.some.inj hqe
    subst hqe
    obtain ⟨dn, r, hd⟩ := List.append_of_mem hq
    have hdn : ps[dn.length]? = some q := by rw [hd, List.getElem?_append_right (Nat.le_refl _), Nat.sub_self]; rfl
    have nob : ∀ x, (x ≤ q.1 ∨ q.2 ≤ x) → (f_frb rs q.1 q.2 c kd).testBit x = false := fun x hx => by
      cases hb : (f_frb rs q.1 q.2 c kd).testBit x with
      | false => rfl
      | true => have := f_frb_bit hb; omega
    have h1 : dn.foldl (f_imS (f_frb rs q.1 q.2 c kd)) (0, 0) = (0, 0) := f_imS_no dn _ (fun p hp x hx1 hx2 => by
      obtain ⟨j, hj⟩ := List.getElem?_of_mem hp
      have hlt := (List.getElem?_eq_some_iff.mp hj).1
      have := hord j dn.length p q hlt (by rw [hd, List.getElem?_append_left hlt]; exact hj) hdn
      exact nob x (Or.inl (by omega)))
    show (ps.foldl (f_imS (f_frb rs q.1 q.2 c kd)) (0, 0)).2 = (f_farN q.1 q.2 (f_frb rs q.1 q.2 c kd) (q.2 - (q.1 + 1))).2
    rw [hd, List.foldl_append, h1, List.foldl_cons]
    have h2 : f_imS (f_frb rs q.1 q.2 c kd) (0, 0) q = f_farN q.1 q.2 (f_frb rs q.1 q.2 c kd) (q.2 - (q.1 + 1)) := f_imN_far _ _ _ _
    rw [h2, f_imS_no r _ (fun p hp x hx1 hx2 => by
      obtain ⟨j, hj⟩ := List.getElem?_of_mem hp
      have := hord dn.length (dn.length + (j + 1)) q p (by omega) hdn (by rw [hd, List.getElem?_append_right (by omega), show dn.length + (j + 1) - dn.length = j + 1 by omega]; exact hj)
      exact nob x (Or.inr (by omega)))]
theorem f_inm_0 (ps : List (Nat × Nat)) : f_inm ps 0 = 0 := by
  unfold f_inm
  rw [f_imS_no ps (0, 0) (fun q _ x _ _ => Nat.zero_testBit x)]
/-! what one break costs -/
theorem f_and_bit {A x : Nat} : A &&& 2 ^ x = if A.testBit x = true then 2 ^ x else 0 := by
  refine Nat.eq_of_testBit_eq fun i => ?_
  rw [Nat.testBit_and, Nat.testBit_two_pow]
  by_cases h : A.testBit x = true
  · rw [if_pos h, Nat.testBit_two_pow]
    by_cases e : x = i
    · subst e; simp [h]
    · simp [e]
  · rw [if_neg h, Nat.zero_testBit]
    by_cases e : x = i
    · subst e; simp [h]
    · simp [e]
theorem f_pc_pow {x : Nat} (hx : x < 17) : f_pc (2 ^ x) = 1 := by
  have : ∀ x, x < 17 → f_pc (2 ^ x) = 1 := by decide +kernel
  exact this x hx
theorem f_prs_one {rs : List fRl} {f t c k x : Nat} (h1 : f < x) (h2 : x < t) (ht : t ≤ 17) : f_prs rs f t c k (2 ^ x) = f_psm rs f t c k x := by
  unfold f_prs f_psm
  congr 1
  refine List.map_congr_left fun q _ => ?_
  unfold f_prt
  have hb : (f_hb q.2.2 f t c k).testBit x = f_hold q.2.2 f t c k x := by
    unfold f_hb
    rw [f_bits_test, decide_eq_true h2, decide_eq_true h1, Bool.true_and, Bool.true_and]
  rw [f_and_bit, hb]
  by_cases hq : q.1 = true
  · by_cases hh : f_hold q.2.2 f t c k x = true
    · rw [if_pos hq, if_pos hh, if_pos ⟨hq, hh⟩, f_pc_pow (by omega), Nat.mul_one]
    · rw [if_pos hq, if_neg hh, if_neg (fun z => hh z.2), f_pc_0, Nat.mul_zero]
  · rw [if_neg hq, if_neg (fun z => hq z.1)]
theorem f_prc_in {rs : List fRl} {f t c k x : Nat} (ht : t ≤ 17) : f_prc rs f t c k (2 ^ x) = if f < x ∧ x < t then f_psm rs f t c k x else 0 := by
  unfold f_prc
  have hb : (f_inb f t).testBit x = (decide (x < t) && decide (f < x)) := by unfold f_inb; rw [f_bits_test]
  rw [Nat.and_comm, f_and_bit, hb]
  by_cases h : f < x ∧ x < t
  · rw [if_pos (by rw [decide_eq_true h.1, decide_eq_true h.2]; rfl), if_pos h, f_prs_one h.1 h.2 ht]
  · rw [if_neg (fun z => by rw [Bool.and_eq_true, decide_eq_true_eq, decide_eq_true_eq] at z; exact h ⟨z.2, z.1⟩), if_neg h]
    exact f_prs_0 _ _ _ _ _
theorem f_sum_one {g : Nat × Nat → Nat} {a : Nat} : ∀ (dn r : List (Nat × Nat)) (q : Nat × Nat), (∀ p ∈ dn, g p = 0) → (∀ p ∈ r, g p = 0) → g q = a → ((dn ++ q :: r).map g).sum = a := by
  have z : ∀ l : List (Nat × Nat), (∀ p ∈ l, g p = 0) → (l.map g).sum = 0 := by
    intro l
    induction l with
    | nil => intro _; rfl
    | cons p l ih =>
      intro h
      rw [List.map_cons, List.sum_cons, h p List.mem_cons_self, ih (fun p hp => h p (List.mem_cons_of_mem _ hp))]
  intro dn r q h1 h2 h3
  rw [List.map_append, List.sum_append, List.map_cons, List.sum_cons, z dn h1, z r h2, h3]
  omega
theorem f_price_one {rs : List fRl} {L kd br x : Nat} {q : Nat × Nat} (hL : L ≤ 17) (hq : q ∈ f_pc0 L br) (h1 : q.1 < x) (h2 : x < q.2) : f_price rs L kd br (2 ^ x) = f_psm rs q.1 q.2 (f_pc br) kd x := by
  have hord := (f_pcs_ord (L := L) (br := br) L 1 0 (by omega)).2
  have hle := f_pcs_le L br L 1 0 (by omega)
  obtain ⟨dn, r, hd⟩ := List.append_of_mem hq
  have hd' : f_pcs L br L 1 0 = dn ++ q :: r := hd
  rw [hd'] at hord hle
  unfold f_price
  rw [hd']
  have hdn : (dn ++ q :: r)[dn.length]? = some q := by rw [List.getElem?_append_right (Nat.le_refl _), Nat.sub_self]; rfl
  refine f_sum_one dn r q (fun p hp => ?_) (fun p hp => ?_) ?_
  · obtain ⟨j, hj⟩ := List.getElem?_of_mem hp
    have hlt := (List.getElem?_eq_some_iff.mp hj).1
    have := hord j dn.length p q hlt (by rw [List.getElem?_append_left hlt]; exact hj) hdn
    have hpl := hle p (List.mem_append_left _ hp)
    show f_prc rs p.1 p.2 (f_pc br) kd (2 ^ x) = 0
    rw [f_prc_in (by omega), if_neg (by omega)]
  · obtain ⟨j, hj⟩ := List.getElem?_of_mem hp
    have := hord dn.length (dn.length + (j + 1)) q p (by omega) hdn (by rw [List.getElem?_append_right (by omega), show dn.length + (j + 1) - dn.length = j + 1 by omega]; exact hj)
    have hpl := hle p (List.mem_append_right _ (List.mem_cons_of_mem _ hp))
    show f_prc rs p.1 p.2 (f_pc br) kd (2 ^ x) = 0
    rw [f_prc_in (by omega), if_neg (by omega)]
  · have hpl := hle q (List.mem_append_right _ List.mem_cons_self)
    show f_prc rs q.1 q.2 (f_pc br) kd (2 ^ x) = _
    rw [f_prc_in (by omega), if_pos ⟨h1, h2⟩]
theorem f_may_mem {rs : List fRl} {L kd v : Nat} {row : Nat → Nat} {br x : Nat} (h : (f_may rs L kd v row br).testBit x = true) : ∃ q ∈ f_pc0 L br, q.1 < x ∧ x < q.2 := by
  have key : ∀ q ∈ f_pcs L br L 1 0, (f_frb rs q.1 q.2 (f_pc br) kd).testBit x = true → ∃ q ∈ f_pc0 L br, q.1 < x ∧ x < q.2 := fun q hq hb => ⟨q, hq, f_frb_bit hb⟩
  unfold f_may at h
  split at h
  · unfold f_alls at h
    rcases f_or_bit (fun q : Nat × Nat => f_frb rs q.1 q.2 (f_pc br) kd) x _ 0 h with e | ⟨q, hq, e⟩
    · rw [Nat.zero_testBit] at e; cases e
    · exact key q hq e
  · rename_i hn
    split at h
    · rw [Nat.zero_testBit] at h; cases h
    · rename_i i hi
      have hlt := f_cho_lt _ _ _ _ _ _ (by omega) hi
      have hm : f_og (f_ops rs (f_pc br) kd (f_pcs L br L 1 0)) i ∈ f_ops rs (f_pc br) kd (f_pcs L br L 1 0) := by
        unfold f_og
        rw [List.getD_eq_getElem?_getD, List.getElem?_eq_getElem hlt]
        exact List.getElem_mem hlt
      have hb : (f_og (f_ops rs (f_pc br) kd (f_pcs L br L 1 0)) i).2.2.testBit x = true := by
        split at h
        · exact f_farN_bit _ _ _ _ _ h
        · exact h
      obtain ⟨q, hq, hqe⟩ := List.mem_filterMap.mp hm
      split at hqe
      · cases hqe
      · have hqe := Option.some.inj hqe
        rw [← hqe] at hb
        exact key q hq hb
/-- a breaker of the reference, and the yard -/
def f_MB (M : fMem) (y : fYd) (b kd v : Nat) (row : Nat → Nat) : Prop := f_HR 101 y M ∧ f_rok y.2.2 ∧ y.2.2.length ≤ 10 ∧ 1 ≤ y.1 ∧ y.1 ≤ 17 ∧ b < 6 ∧ M.1 101 (9 + b) = nI kd ∧ kd < 7 ∧ M.1 101 (15 + b) = nI v ∧ v < 10 ∧ ∀ j, j < 4 → M.1 101 (21 + (b * 4 + j)) = nI (row j) ∧ row j < 10
theorem f_MB.cg {M M' : fMem} {y : fYd} {b kd v : Nat} {row : Nat → Nat} (h : f_MB M y b kd v row) (e : M'.1 101 = M.1 101) : f_MB M' y b kd v row := by
  obtain ⟨a1, a2, a3, a4, a5, a6, a7, a8, a9, a10, a11⟩ := h
  exact ⟨a1.cg e, a2, a3, a4, a5, a6, by rw [e]; exact a7, a8, by rw [e]; exact a9, a10, by rw [e]; exact a11⟩
def S_my : fSp := fun G As M R => match As with
  | [.ref 100, .int zb, .int z] => ∃ (y : fYd) (b br kd v : Nat) (row : Nat → Nat), G = f_GM ∧ f_MB M y b kd v row ∧ zb = nI b ∧ z = nI br ∧ br < 2 ^ y.1 ∧ br.testBit 0 = false ∧ (∀ M', f_em f_LFL M M' → (∀ x, (f_may y.2.2 y.1 kd v row br).testBit x = true → M'.1 108 x = nI (f_price y.2.2 y.1 kd br (2 ^ x))) → R G (some (.int (nI (f_may y.2.2 y.1 kd v row br)))) M')
  | _ => False
set_option maxRecDepth 20000 in
theorem m_my : f_Meets 3 (kX12_mayOf S_lff S_flo S_fsh S_fnm S_inm S_afr) S_my := by
  intro G As M R hsp X hX hW
  match As, hsp with
  | [.ref 100, .int zb, .int z], ⟨y, b, br, kd, v, row, hG, hMB, hzb, hz, hbr, h0, hsp⟩ =>
    subst hG; subst hzb; subst hz
    obtain ⟨hH, hrok, hr10, h1, h17, hb, hkd, hkd7, hv, hv10, hrow⟩ := hMB
    refine f_run_ok (stop := fun q => Nat.beq q 6) hX 20 _ _ _ _ _ ?_
    refine ⟨y, b, br, kd, rfl, hH, hrok, hr10, h1, h17, rfl, hb, hkd, hkd7, rfl, hbr, h0, fun M1 he1 hPF => ?_⟩
    have e101 : M1.1 101 = M.1 101 := he1.1 101 (by decide) (by decide)
    have hord := (f_pcs_ord (L := y.1) (br := br) y.1 1 0 (by omega)).2
    have hord : ∀ (k j : Nat) (q r : Nat × Nat), k < j → (f_pc0 y.1 br)[k]? = some q → (f_pc0 y.1 br)[j]? = some r → q.2 ≤ r.1 := hord
    have hlen := f_pc0_len h1 h17 hbr h0
    have hF : f_FW M1 y.2.2 (f_pc br) kd (f_pc0 y.1 br) := ⟨hPF.1, hPF.2.1⟩
    have res := hsp M1 he1 (fun x hx => by
      obtain ⟨q, hq, q1, q2⟩ := f_may_mem hx
      rw [f_price_one h17 hq q1 q2]
      exact hPF.2.2 q x hq q1 q2)
    have hmay : f_may y.2.2 y.1 kd v row br = if kd = 0 ∨ (f_ops y.2.2 (f_pc br) kd (f_pc0 y.1 br)).length = 0 then f_alls y.2.2 (f_pc br) kd (f_pc0 y.1 br) else match f_cho (f_ops y.2.2 (f_pc br) kd (f_pc0 y.1 br)) kd v row (f_pc br) with
      | none => 0
      | some i => if kd = 4 then f_far (f_og (f_ops y.2.2 (f_pc br) kd (f_pc0 y.1 br)) i) else (f_og (f_ops y.2.2 (f_pc br) kd (f_pc0 y.1 br)) i).2.2 := rfl
    have hnil : (f_ops y.2.2 (f_pc br) kd (f_pc0 y.1 br)).length = 0 → f_alls y.2.2 (f_pc br) kd (f_pc0 y.1 br) = 0 := fun h => f_alls_0 _ (f_ops_nil _ h)
    have hfl := f_FL_ok (f_ops y.2.2 (f_pc br) kd (f_pc0 y.1 br))
    have hfs := f_FS_ok (f_ops y.2.2 (f_pc br) kd (f_pc0 y.1 br))
    have hinm : ∀ o, o ∈ f_ops y.2.2 (f_pc br) kd (f_pc0 y.1 br) → f_inm (f_pc0 y.1 br) o.2.2 = f_far o := fun o ho => f_inm_far hord ho
    have hopb : ∀ o, o ∈ f_ops y.2.2 (f_pc br) kd (f_pc0 y.1 br) → o.2.2 < 2 ^ 17 := fun o ho => by
      obtain ⟨q, hq, hqe⟩ := List.mem_filterMap.mp ho
      split at hqe
      · cases hqe
      · have hqe := Option.some.inj hqe
        rw [← hqe]
        have := f_pcs_le y.1 br y.1 1 0 (by omega) q hq
        exact Nat.lt_of_lt_of_le (f_frb_lt _ _ _ _ _) (Nat.pow_le_pow_right (by decide) (by omega))
    rw [hmay] at res
    show X f_GM 6 [some (.ref 100), some (.int (nI b)), some (.int (nI br))] [] M1
    generalize f_pc0 y.1 br = ps at *
    generalize hc : f_pc br = c at *
    generalize hops : f_ops y.2.2 c kd ps = ops at *
    have hpl := hPF.1.2.1
    have hc17 : c ≤ 17 := by omega
    have hbest : ops.length ≠ 0 → ops.foldl f_sL none = some (f_og ops (f_lng ops (ops.length - 1))) ∧ f_og ops (f_lng ops (ops.length - 1)) ∈ ops := by
      intro hl
      have e := hfl (ops.length - 1) (by omega)
      rw [show ops.length - 1 + 1 = ops.length by omega, List.take_length] at e
      refine ⟨e, ?_⟩
      have hlt : f_lng ops (ops.length - 1) < ops.length := by have := f_lng_le ops (ops.length - 1); omega
      unfold f_og
      rw [List.getD_eq_getElem?_getD, List.getElem?_eq_getElem hlt]
      exact List.getElem_mem hlt
    have hnone : ops.length = 0 → ops = [] := fun h => List.length_eq_zero_iff.mp h
    have hsht : ∀ w, f_opv (ops.foldl (f_sS w) none) = match f_sht ops w ops.length with
      | none => 0
      | some i => (f_og ops i).2.2 := fun w => by
      have e := hfs w ops.length (Nat.le_refl _)
      rw [List.take_length] at e
      rw [e]
      cases f_sht ops w ops.length <;> rfl
    obtain ⟨i1, i2⟩ := f_ix (n := 906) (show 9 + nI b = nI (9 + b) from nI_add 9 b) (by omega) (by omega)
    obtain ⟨j1, j2⟩ := f_ix (n := 906) (show 15 + nI b = nI (15 + b) from nI_add 15 b) (by omega) (by omega)
    have ekd : M1.1 101 (9 + nI b).toNatClampNeg = nI kd := by rw [i2, e101]; exact hkd
    refine f_run_ok (stop := fun q => Nat.beq q 15) hX 40 _ _ _ _ _ ?_
    refine And.intro i1 ?_
    show X f_GM 15 [some (.ref 100), some (.int (nI b)), some (.int (nI br))] [.int (M1.1 101 (9 + nI b).toNatClampNeg)] M1
    rw [ekd]
    refine f_run_ok (stop := fun q => false) hX 60 _ _ _ _ _ ?_
    refine And.intro (fun h => ?_) (fun n1 => And.intro (fun h => ?_) (fun n2 => And.intro (fun h => ?_) (fun n3 => And.intro (fun h => ?_) (fun n4 => And.intro (fun h => ?_) (fun n5 => And.intro (fun h => ?_) (fun n6 => ?_))))))
    · have h := (nI_eq (b := 1) (by omega) (by omega)).mp h
      refine ⟨y.2.2, c, kd, ps, rfl, hF, f_fin res (congrArg (fun z => some (Value.int (nI z))) ?_) rfl⟩
      rw [hops]
      by_cases hl : ops.length = 0
      · rw [if_pos (Or.inr hl), hnil hl, hnone hl]; rfl
      · rw [if_neg (fun z => z.elim (by omega) hl), (hbest hl).1]
        unfold f_cho
        rw [if_pos (Or.inl h)]
        show (if kd = 4 then _ else _) = _
        rw [if_neg (by omega)]
        rfl
    · have h := (nI_eq (b := 2) (by omega) (by omega)).mp h
      refine ⟨y.2.2, c, kd, 0, ps, rfl, hF, rfl, by omega, f_fin res (congrArg (fun z => some (Value.int (nI z))) ?_) rfl⟩
      rw [hops, hsht]
      by_cases hl : ops.length = 0
      · rw [if_pos (Or.inr hl), hnil hl, hnone hl]; rfl
      · rw [if_neg (fun z => z.elim (by omega) hl)]
        unfold f_cho
        rw [if_neg (by omega), if_pos h]
        cases f_sht ops 0 ops.length with
        | none => rfl
        | some i => show (if kd = 4 then _ else _) = _; rw [if_neg (by omega)]
    · have h := (nI_eq (b := 3) (by omega) (by omega)).mp h
      refine ⟨y.2.2, c, kd, 0, ps, rfl, hF, rfl, by omega, f_fin res (congrArg (fun z => some (Value.int (nI z))) ?_) rfl⟩
      rw [hops]
      unfold f_nmb
      by_cases hl : ops.length = 0
      · rw [if_pos (Or.inr hl), hnil hl, if_pos hl]
      · rw [if_neg (fun z => z.elim (by omega) hl), if_neg hl, Nat.zero_mod]
        unfold f_cho
        rw [if_neg (by omega), if_neg (by omega), if_neg (by omega), if_neg (by omega), if_pos h]
        show (if kd = 4 then _ else _) = _
        rw [if_neg (by omega)]
    · have h := (nI_eq (b := 4) (by omega) (by omega)).mp h
      refine ⟨y.2.2, c, kd, ps, rfl, hF, ?_⟩
      rw [hops]
      by_cases hl : ops.length = 0
      · refine ⟨ps, 0, rfl, hPF.1, by rw [hnone hl]; rfl, by decide, f_fin res (congrArg (fun z => some (Value.int (nI z))) ?_) rfl⟩
        rw [if_pos (Or.inr hl), hnil hl, f_inm_0]
      · obtain ⟨g1, g2⟩ := hbest hl
        refine ⟨ps, (f_og ops (f_lng ops (ops.length - 1))).2.2, rfl, hPF.1, by rw [g1]; rfl, hopb _ g2, f_fin res (congrArg (fun z => some (Value.int (nI z))) ?_) rfl⟩
        rw [if_neg (fun z => z.elim (by omega) hl), hinm _ g2]
        unfold f_cho
        rw [if_pos (Or.inr h)]
        show (if kd = 4 then _ else _) = _
        rw [if_pos h]
    · have h := (nI_eq (b := 5) (by omega) (by omega)).mp h
      refine And.intro j1 ⟨y.2.2, c, kd, v, ps, rfl, hF, by rw [j2, e101]; exact hv, by omega, f_fin res (congrArg (fun z => some (Value.int (nI z))) ?_) rfl⟩
      rw [hops, hsht]
      by_cases hl : ops.length = 0
      · rw [if_pos (Or.inr hl), hnil hl, hnone hl]; rfl
      · rw [if_neg (fun z => z.elim (by omega) hl)]
        unfold f_cho
        rw [if_neg (by omega), if_neg (by omega), if_pos h]
        cases f_sht ops v ops.length with
        | none => rfl
        | some i => show (if kd = 4 then _ else _) = _; rw [if_neg (by omega)]
    · have h := (nI_eq (b := 6) (by omega) (by omega)).mp h
      have epc : M1.1 100 17 - 1 = nI c := by rw [hPF.1.1, hlen]; exact nI_pred c
      have erem : (M1.1 100 17 - 1) - (M1.1 100 17 - 1) / 4 * 4 = nI (c % 4) := by rw [epc]; exact pk_rem (d := 4) (by omega) (by omega) (by omega)
      obtain ⟨k1, k2⟩ := f_rwix hb (k := c % 4) (by omega)
      rw [← erem] at k1 k2
      obtain ⟨r1, r2⟩ := hrow (c % 4) (by omega)
      refine And.intro (by decide) (And.intro k1 ⟨y.2.2, c, kd, row (c % 4), ps, rfl, hF, ?_, by omega, f_fin res (congrArg (fun z => some (Value.int (nI z))) ?_) rfl⟩)
      · show M1.1 101 (21 + 4 * nI b + ((M1.1 100 17 - 1) - (M1.1 100 17 - 1) / 4 * 4)).toNatClampNeg = _
        rw [k2, e101]
        exact r1
      · rw [hops]
        unfold f_nmb
        by_cases hl : ops.length = 0
        · rw [if_pos (Or.inr hl), hnil hl, if_pos hl]
        · rw [if_neg (fun z => z.elim (by omega) hl), if_neg hl]
          unfold f_cho
          rw [if_neg (by omega), if_neg (by omega), if_neg (by omega), if_pos h]
          show (if kd = 4 then _ else _) = _
          rw [if_neg (by omega)]
    · have g1 : ¬ kd = 1 := fun z => n1 (by rw [z]; rfl)
      have g2 : ¬ kd = 2 := fun z => n2 (by rw [z]; rfl)
      have g3 : ¬ kd = 3 := fun z => n3 (by rw [z]; rfl)
      have g4 : ¬ kd = 4 := fun z => n4 (by rw [z]; rfl)
      have g5 : ¬ kd = 5 := fun z => n5 (by rw [z]; rfl)
      have g6 : ¬ kd = 6 := fun z => n6 (by rw [z]; rfl)
      refine ⟨y.2.2, c, kd, ps, rfl, hF, f_fin res (congrArg (fun z => some (Value.int (nI z))) ?_) rfl⟩
      rw [if_pos (Or.inl (by omega))]
