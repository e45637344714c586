theorem f_enc_test {t : Nat} (h : t < 2000) : f_enc t = nI t := by unfold f_enc; rw [if_pos h]
theorem f_enc_not {t : Nat} (h : t = 2000) : f_enc t = -1 := by subst h; rfl
theorem f_enc_and {t : Nat} (h : t = 2001) : f_enc t = -2 := by subst h; rfl
theorem f_enc_or {t : Nat} (h1 : ¬ t < 2000) (h2 : ¬ t = 2000) (h3 : ¬ t = 2001) : f_enc t = -3 := by
  unfold f_enc; rw [if_neg h1, if_neg h2, if_neg h3]
theorem bt_not (w : Int32) {x : Nat} (hx : x < 32) : bt (w ^^^ (-1)) x = !bt w x := by rw [b_xor, b_m1 x hx]; simp
/-- the judge's own fields: the piece, the cuts, the kind -/
def f_JD (M : fMem) (f t c k : Nat) : Prop := f < t ∧ t ≤ 17 ∧ c < 100 ∧ k < 100 ∧ M.1 37 1 = nI f ∧ M.1 37 2 = nI t ∧ M.1 37 3 = nI c ∧ M.1 37 4 = nI k
theorem f_JD.ex {M M' : fMem} {f t c k : Nat} {cs ds : List Nat} (h : f_JD M f t c k) (he : f_ex cs ds M M') (h0 : 37 ∉ cs) : f_JD M' f t c k := by
  obtain ⟨a, b, c, d, e1, e2, e3, e4⟩ := h
  have q := he.1 37 h0
  exact ⟨a, b, c, d, by rw [q]; exact e1, by rw [q]; exact e2, by rw [q]; exact e3, by rw [q]; exact e4⟩
def f_hb (ts : List Nat) (f t c k : Nat) : Nat := f_bits t (fun x => decide (f < x) && f_hold ts f t c k x)
def f_inb (f t : Nat) : Nat := f_bits t (fun x => decide (f < x))
theorem f_inb_eq {f t : Nat} (h : f < t) : f_inb f t = 2 ^ t - 2 ^ (f + 1) := by
  have h2 : 2 ^ (f + 1) ≤ 2 ^ t := Nat.pow_le_pow_right (by decide) h
  have key : ∀ n, f_bits (f + 1 + n) (fun x => decide (f < x)) + 2 ^ (f + 1) = 2 ^ (f + 1 + n) := by
    intro n
    induction n with
    | zero =>
      have z0 : f_bits (f + 1) (fun x => decide (f < x)) = 0 := by
        refine Nat.eq_of_testBit_eq fun x => ?_
        rw [f_bits_test, Nat.zero_testBit]
        by_cases hx : x < f + 1
        · simp [show ¬ f < x by omega]
        · simp [hx]
      rw [Nat.add_zero, z0]; omega
    | succ n ih =>
      have e : f_bits (f + 1 + (n + 1)) (fun x => decide (f < x)) = f_bits (f + 1 + n) (fun x => decide (f < x)) + 2 ^ (f + 1 + n) := by
        show f_bits (f + 1 + n) _ + (if decide (f < f + 1 + n) = true then 2 ^ (f + 1 + n) else 0) = _
        rw [if_pos (by simp; omega)]
      rw [e, show f + 1 + (n + 1) = (f + 1 + n) + 1 by omega, Nat.pow_succ]
      omega
  have := key (t - (f + 1))
  rw [show f + 1 + (t - (f + 1)) = t by omega] at this
  unfold f_inb
  omega
def S_inner : fSp := fun G As M R => match As with
  | [.ref 37] => ∃ f t c k : Nat, G = f_GX ∧ f_JD M f t c k ∧ R G (some (.int (nI (f_inb f t)))) M
  | _ => False
theorem m_inner : f_Meets 1 kX3_innerNotches S_inner := by
  intro G As M R hsp X hX hW
  match As, hsp with
  | [.ref 37], ⟨f, t, c, k, hG, ⟨a, b, _, _, e1, e2, _, _⟩, hsp⟩ =>
    subst hG
    refine f_run_ok (stop := fun _ => false) hX 20 _ _ _ _ _ ?_
    refine f_fin hsp ?_ rfl
    have h2 : 2 ^ (f + 1) ≤ 2 ^ t := Nat.pow_le_pow_right (by decide) a
    rw [f_inb_eq a, ← pk_sub h2, ← n_shl (k := t) (by omega), ← n_shl (k := f + 1) (by omega), nI_succ, ← e1, ← e2]
theorem f_getD_take {rs : List fRl} {r : Nat} {q : fRl} (h : rs[r]? = some q) : r < rs.length := (List.getElem?_eq_some_iff.mp h).1
def S_holding : fSp := fun G As M R => match As with
  | [.ref 37, .int z] => ∃ (rs : List fRl) (r : Nat) (q : fRl) (f t c k : Nat), G = f_GX ∧ z = nI r ∧ rs[r]? = some q ∧ f_YR M 5 rs ∧ f_JD M f t c k ∧ (∀ M', f_ex [38] [] M M' → R G (some (.int (nI (f_hb q.2.2 f t c k)))) M')
  | _ => False
set_option maxRecDepth 20000 in
theorem m_holding : f_Meets 8 (kX3_holding S_at S_passing S_put S_inner) S_holding := by
  intro G As M R hsp X hX hW
  match As, hsp with
  | [.ref 37, .int z], ⟨rs, r, q, f, t, c, k, hG, hz, hq, hY, hJ, hsp⟩ =>
    subst hG; subst hz
    have hr := f_getD_take hq
    obtain ⟨y1, y2, y3, y4⟩ := hY
    obtain ⟨d1, d2, d3, d4, d5, d6⟩ := y4 r q hq
    have hbs := f_beg_succ rs r q hq
    have hmono := f_beg_mono rs rs.length (r + 1) (by omega)
    have hft := hJ.1
    have ht17 := hJ.2.1
    -- the loop
    have loop : ∀ (ts ds : List Nat) (M' : fMem) (d : Nat) (o1 o2 o3 : Option Value), q.2.2 = ds ++ ts → f_ex [38] [] M M' → d ≤ 60 → f_wf ts d →
        (∀ x, f < x → x < t → (f_ev (fun q => f_tst q f t c k x) ds []).length = d ∧ f_rel (M'.1 38) x (f_ev (fun q => f_tst q f t c k x) ds [])) →
        X f_GX 37 [some (.ref 37), some (.int (nI r)), some (.int (nI (f_beg rs (r + 1)))), some (.int (nI d)), some (.int (nI (f_beg rs r + ds.length))), o1, o2, o3] [] M' := by
      intro ts
      induction ts with
      | nil =>
        intro ds M' d o1 o2 o3 hds he hd hwf hrel
        have hd1 : d = 1 := hwf
        rw [List.append_nil] at hds
        have hl := congrArg List.length hds
        refine f_run_ok (stop := fun q => Nat.beq q 37) hX 30 _ _ _ _ _ ?_
        refine And.intro (fun h => ?_) (fun h => ?_)
        · refine ⟨f, t, c, k, rfl, hJ.ex he (by decide), ?_⟩
          refine f_fin (hsp M' he) ?_ rfl
          refine congrArg (fun z => some (Value.int z)) ?_
          show _ = f_at (100, M'.1 38) 0 &&& nI (f_inb f t)
          have e0 : f_at (100, M'.1 38) 0 = M'.1 38 0 := f_at_in (t := (100, M'.1 38)) (j := 0) (by show 0 < 100; decide) (by show 100 < _; decide)
          rw [e0]
          have hb1 : f_hb q.2.2 f t c k < 2 ^ t := f_bits_lt _ _
          have hb2 : f_inb f t < 2 ^ t := f_bits_lt _ _
          have hp : 2 ^ t ≤ 2 ^ 17 := Nat.pow_le_pow_right (by decide) ht17
          refine b_ext fun x hx => ?_
          rw [b_and]
          by_cases hx31 : x < 31
          · rw [bt_n (by omega) hx31, bt_n (by omega) hx31]
            unfold f_hb f_inb
            rw [f_bits_test, f_bits_test]
            by_cases hxt : x < t
            · by_cases hfx : f < x
              · obtain ⟨g1, g2⟩ := hrel x hfx hxt
                simp only [hxt, hfx, decide_true, Bool.true_and, Bool.and_true]
                unfold f_hold
                rw [hds]
                rw [hd1] at g1
                generalize f_ev (fun q => f_tst q f t c k x) ds [] = l at g1 g2
                match l, g1, g2 with
                | [b], _, g2 => exact g2.1.symm
              · simp [hfx]
            · simp [hxt]
          · have hx31 : x = 31 := by omega
            subst hx31
            have z1 : bt (nI (f_hb q.2.2 f t c k)) 31 = false := by
              show (BitVec.ofNat 32 (f_hb q.2.2 f t c k)).getLsbD 31 = false
              rw [BitVec.getLsbD_ofNat, Nat.testBit_lt_two_pow (by omega)]; rfl
            have z2 : bt (nI (f_inb f t)) 31 = false := by
              show (BitVec.ofNat 32 (f_inb f t)).getLsbD 31 = false
              rw [BitVec.getLsbD_ofNat, Nat.testBit_lt_two_pow (by omega)]; rfl
            rw [z1, z2]; simp
        · refine absurd (nI_le ?_ (by omega)) h
          rw [hbs, hds]; exact Nat.le_refl _
      | cons a ts ih =>
        intro ds M' d o1 o2 o3 hds he hd hwf hrel
        have hlen : q.2.2.length = ds.length + (ts.length + 1) := by rw [hds]; simp
        have hcode : M'.1 9 (f_beg rs r + ds.length) = f_enc a := by
          rw [he.1 9 (by decide)]
          exact d6 ds.length a (by rw [hds]; simp)
        have hat : f_at (100, M'.1 9) (nI (f_beg rs r + ds.length)) = f_enc a := by
          rw [f_at_in (t := (100, M'.1 9)) (j := f_beg rs r + ds.length) (by show _ < 100; omega) (by show 100 < _; decide)]
          exact hcode
        have next : ∀ (M2 : fMem) (d2 : Nat) (o1 o2 o3 : Option Value), f_ex [38] [] M M2 → d2 ≤ 60 → f_wf ts d2 → (∀ x, f < x → x < t → (f_stp (fun q => f_tst q f t c k x) (f_ev (fun q => f_tst q f t c k x) ds []) a).length = d2 ∧ f_rel (M2.1 38) x (f_stp (fun q => f_tst q f t c k x) (f_ev (fun q => f_tst q f t c k x) ds []) a)) → X f_GX 37 [some (.ref 37), some (.int (nI r)), some (.int (nI (f_beg rs (r + 1)))), some (.int (nI d2)), some (.int (nI (f_beg rs r + ds.length) + 1)), o1, o2, o3] [] M2 := by
          intro M2 d2 o1 o2 o3 h1 h2 h3 h4
          have := ih (ds ++ [a]) M2 d2 o1 o2 o3 (by rw [hds]; simp) h1 h2 h3 (fun x hx hxt => by
            have e : f_ev (fun q => f_tst q f t c k x) (ds ++ [a]) [] = f_stp (fun q => f_tst q f t c k x) (f_ev (fun q => f_tst q f t c k x) ds []) a := by unfold f_ev; rw [List.foldl_append]; rfl
            rw [e]; exact h4 x hx hxt)
          rw [show f_beg rs r + (ds ++ [a]).length = f_beg rs r + ds.length + 1 by simp; omega, nI_succ] at this
          exact this
        have hJ' := hJ.ex he (by decide)
        refine f_run_ok (stop := fun q => Nat.beq q 37 || Nat.beq q 55) hX 30 _ _ _ _ _ ?_
        refine And.intro (fun h => ?_) (fun h => ?_)
        · have h := (nI_leI (by omega) (by omega)).mp h
          omega
        · show X f_GX 55 [some (.ref 37), some (.int (nI r)), some (.int (nI (f_beg rs (r + 1)))), some (.int (nI d)), some (.int (nI (f_beg rs r + ds.length))), o1, o2, o3] [.int (f_at (100, M'.1 9) (nI (f_beg rs r + ds.length)))] M'
          rw [hat]
          unfold f_wf at hwf
          by_cases ha : a < 2000
          · rw [if_pos ha] at hwf
            rw [f_enc_test ha]
            refine f_run_ok (stop := fun q => Nat.beq q 37) hX 30 _ _ _ _ _ ?_
            refine And.intro (fun h => absurd h (nI_pos (by omega))) (fun h => ?_)
            refine ⟨a, f, t, c, k, rfl, rfl, ha, hJ'.1, hJ'.2.1, hJ'.2.2.1, hJ'.2.2.2.1, hJ'.2.2.2.2.1, hJ'.2.2.2.2.2.1, hJ'.2.2.2.2.2.2.1, hJ'.2.2.2.2.2.2.2, ?_⟩
            have hnx := next (f_pt 100 38 (nI d) (nI (f_bits t (fun x => decide (f < x) && f_tst a f t c k x))) M') (d + 1) (some (.int (nI a))) o2 o3 (he.pt (by decide)) hwf.1 hwf.2 (fun x hx hxt => by
              obtain ⟨g1, g2⟩ := hrel x hx hxt
              unfold f_stp
              rw [if_pos ha, f_pt_in (by omega) (by decide)]
              have hp : 2 ^ t ≤ 2 ^ 17 := Nat.pow_le_pow_right (by decide) ht17
              have hlt := f_bits_lt (fun x => decide (f < x) && f_tst a f t c k x) t
              refine ⟨by simp [g1], ?_, f_rel_cg _ (fun j hj => ?_) g2⟩
              · rw [g1]
                show bt (f_up M'.1 38 d _ 38 d) x = _
                rw [show f_up M'.1 38 d (nI (f_bits t (fun x => decide (f < x) && f_tst a f t c k x))) 38 d = nI (f_bits t (fun x => decide (f < x) && f_tst a f t c k x)) by simp [f_up]]
                rw [bt_n (by omega) (by omega), f_bits_test]
                simp [hx, hxt]
              · rw [g1] at hj
                show f_up M'.1 38 d _ 38 j = M'.1 38 j
                simp [f_up, show ¬ j = d by omega])
            rw [nI_succ] at hnx
            exact hnx
          · rw [if_neg ha] at hwf
            by_cases ha2 : a = 2000
            · rw [if_pos ha2] at hwf
              rw [f_enc_not ha2]
              refine f_run_ok (stop := fun q => Nat.beq q 37) hX 30 _ _ _ _ _ ?_
              refine And.intro (fun h => ?_) (fun h => absurd (show (-1 : Int32) < 0 by decide) h)
              refine And.intro (fun h => ?_) (fun h => absurd (show (-1 : Int32) = -1 from rfl) h)
              have em : nI d - 1 = nI (d - 1) := pk_sub (b := 1) hwf.1
              have hnx := next (f_pt 100 38 (nI (d - 1)) (f_at (100, M'.1 38) (nI (d - 1)) ^^^ (-1)) M') d (some (.int (-1))) o2 o3 (he.pt (by decide)) hd hwf.2 (fun x hx hxt => by
                obtain ⟨g1, g2⟩ := hrel x hx hxt
                unfold f_stp
                rw [if_neg ha, if_pos ha2, f_pt_in (by omega) (by decide), f_at_in (t := (100, M'.1 38)) (j := d - 1) (by show d - 1 < 100; omega) (by show 100 < _; decide)]
                generalize f_ev (fun q => f_tst q f t c k x) ds [] = l at g1 g2
                match l, g1, g2 with
                | [], g1, _ => simp at g1; omega
                | b :: l, g1, g2 =>
                  simp at g1
                  refine ⟨by simp [g1], ?_, f_rel_cg _ (fun j hj => ?_) g2.2⟩
                  · rw [show l.length = d - 1 by omega]
                    have hb := g2.1
                    rw [show l.length = d - 1 by omega] at hb
                    show bt (f_up M'.1 38 (d - 1) (M'.1 38 (d - 1) ^^^ (-1)) 38 (d - 1)) x = !b
                    rw [show f_up M'.1 38 (d - 1) (M'.1 38 (d - 1) ^^^ (-1)) 38 (d - 1) = M'.1 38 (d - 1) ^^^ (-1) by simp [f_up], bt_not _ (by omega), hb]
                  · show f_up M'.1 38 (d - 1) _ 38 j = M'.1 38 j
                    simp [f_up, show ¬ j = d - 1 by omega])
              rw [← em] at hnx
              exact hnx
            · rw [if_neg ha2] at hwf
              obtain ⟨hd2, hwf⟩ := hwf
              have hw : f_enc a = if a = 2001 then -2 else -3 := by
                by_cases h1 : a = 2001
                · rw [f_enc_and h1, if_pos h1]
                · rw [f_enc_or ha ha2 h1, if_neg h1]
              have em : nI d + (-1) = nI (d - 1) := by rw [show d = (d - 1) + 1 by omega, pk_m1]; rfl
              have em2 : nI (d - 1) - 1 = nI (d - 2) := pk_sub (b := 1) (by omega)
              have hA : f_at (100, M'.1 38) (nI (d - 1)) = M'.1 38 (d - 1) := f_at_in (t := (100, M'.1 38)) (j := d - 1) (by show d - 1 < 100; omega) (by show 100 < _; decide)
              have hA2 : f_at (100, M'.1 38) (nI (d - 2)) = M'.1 38 (d - 2) := f_at_in (t := (100, M'.1 38)) (j := d - 2) (by show d - 2 < 100; omega) (by show 100 < _; decide)
              have hnx : ∀ (w : Int32) (o1 o2 o3 : Option Value), (∀ x, x < 32 → bt w x = (if a = 2001 then bt (M'.1 38 (d - 2)) x && bt (M'.1 38 (d - 1)) x else bt (M'.1 38 (d - 2)) x || bt (M'.1 38 (d - 1)) x)) → X f_GX 37 [some (.ref 37), some (.int (nI r)), some (.int (nI (f_beg rs (r + 1)))), some (.int (nI (d - 1))), some (.int (nI (f_beg rs r + ds.length) + 1)), o1, o2, o3] [] (f_pt 100 38 (nI (d - 2)) w M') := by
                intro w o1 o2 o3 hwv
                refine next _ (d - 1) o1 o2 o3 (he.pt (by decide)) (by omega) hwf (fun x hx hxt => ?_)
                obtain ⟨g1, g2⟩ := hrel x hx hxt
                unfold f_stp
                rw [if_neg ha, if_neg ha2, f_pt_in (by omega) (by decide)]
                generalize f_ev (fun q => f_tst q f t c k x) ds [] = l at g1 g2
                match l, g1, g2 with
                | [], g1, _ => simp at g1; omega
                | [_], g1, _ => simp at g1; omega
                | b1 :: b2 :: l, g1, g2 =>
                  simp at g1
                  obtain ⟨g2, g3, g4⟩ := g2
                  rw [show (b2 :: l).length = d - 1 by simp; omega] at g2
                  rw [show l.length = d - 2 by omega] at g3
                  refine ⟨by simp; omega, ?_, f_rel_cg _ (fun j hj => ?_) g4⟩
                  · rw [show l.length = d - 2 by omega]
                    show bt (f_up M'.1 38 (d - 2) w 38 (d - 2)) x = _
                    rw [show f_up M'.1 38 (d - 2) w 38 (d - 2) = w by simp [f_up], hwv x (by omega), g2, g3]
                  · show f_up M'.1 38 (d - 2) _ 38 j = M'.1 38 j
                    simp [f_up, show ¬ j = d - 2 by omega]
              rw [hw]
              by_cases h1 : a = 2001
              · rw [if_pos h1]
                refine f_run_ok (stop := fun q => Nat.beq q 37) hX 50 _ _ _ _ _ ?_
                refine And.intro (fun h => ?_) (fun h => absurd (show (-2 : Int32) < 0 by decide) h)
                refine And.intro (fun h => absurd h (by decide)) (fun h => ?_)
                refine And.intro (fun h => ?_) (fun h => absurd (show (-2 : Int32) = -2 from rfl) h)
                have := hnx (M'.1 38 (d - 2) &&& M'.1 38 (d - 1)) (some (.int (-2))) (some (.int (M'.1 38 (d - 1)))) (some (.int (M'.1 38 (d - 2)))) (fun x hx => by rw [if_pos h1, b_and])
                rw [← hA, ← hA2, ← em2, ← em] at this
                exact this
              · rw [if_neg h1]
                refine f_run_ok (stop := fun q => Nat.beq q 37) hX 50 _ _ _ _ _ ?_
                refine And.intro (fun h => ?_) (fun h => absurd (show (-3 : Int32) < 0 by decide) h)
                refine And.intro (fun h => absurd h (by decide)) (fun h => ?_)
                refine And.intro (fun h => absurd h (by decide)) (fun h => ?_)
                have := hnx (M'.1 38 (d - 2) ||| M'.1 38 (d - 1)) (some (.int (-3))) (some (.int (M'.1 38 (d - 1)))) (some (.int (M'.1 38 (d - 2)))) (fun x hx => by rw [if_neg h1, b_or])
                rw [← hA, ← hA2, ← em2, ← em] at this
                exact this
    have start := loop q.2.2 [] M 0 none none none rfl f_ex.rf (by omega) d5 (fun x hx hxt => ⟨rfl, trivial⟩)
    have hr10 : r < 10 := by omega
    have hE : f_at (10, M.1 8) (nI r) = nI (f_beg rs (r + 1)) := by
      rw [f_at_in (t := (10, M.1 8)) (j := r) hr10 (by show 10 < _; decide)]
      exact d4
    rw [← hE] at start
    refine f_run_ok (stop := fun q => Nat.beq q 37) hX 40 _ _ _ _ _ ?_
    refine And.intro (fun h => ?_) (fun h => ?_)
    · have hr1 : ¬ r = 0 ∨ r = 0 := by omega
      have h0 : r = 0 := by
        have h : nI r = 0 := h
        exact (nI_eq (b := 0) (by omega) (by omega)).mp h
      rw [h0] at start ⊢
      exact start
    · have h : ¬ nI r = 0 := h
      have h0 : ¬ r = 0 := fun z => h (by rw [z]; rfl)
      have em : nI r - 1 = nI (r - 1) := pk_sub (b := 1) (by omega)
      obtain ⟨q', hq'⟩ : ∃ q', rs[r - 1]? = some q' := ⟨rs[r - 1], List.getElem?_eq_getElem (by omega)⟩
      have hB : f_at (10, M.1 8) (nI r - 1) = nI (f_beg rs r) := by
        rw [em, f_at_in (t := (10, M.1 8)) (j := r - 1) (by show r - 1 < 10; omega) (by show 10 < _; decide)]
        have := (y4 (r - 1) q' hq').2.2.2.1
        rw [show r - 1 + 1 = r by omega] at this
        exact this
      rw [show ([] : List Nat).length = 0 from rfl, Nat.add_zero, ← hB] at start
      exact start
