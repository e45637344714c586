def n_ush (x s : Int32) : Int32 := (x.toUInt32 >>> (s.toUInt32 &&& Int32.toUInt32 31)).toInt32
theorem n_ush_eq {n : Nat} (hn : n < 2 ^ 32) (s : Int32) (k : Nat) (hs : ((s.toUInt32 &&& Int32.toUInt32 31).toBitVec % 32).toNat = k) : n_ush (nI n) s = nI (n / 2 ^ k) := pk_ushrN hn s k hs
def f_bcI (z : Int32) : Int32 :=
  let a := z - (n_ush z 1 &&& 1431655765)
  let b := (a &&& 858993459) + (n_ush a 2 &&& 858993459)
  let c := (b + n_ush b 4) &&& 252645135
  let d := c + n_ush c 8
  (d + n_ush d 16) &&& 63
theorem f_bcI_eq {n : Nat} (hn : n < 2 ^ 17) : f_bcI (nI n) = nI (f_bc n) := by
  have A : nI n - (n_ush (nI n) 1 &&& 1431655765) = nI (n - (n / 2 &&& 1431655765)) := by
    rw [n_ush_eq (by omega) 1 1 (by decide)]
    show nI n - (nI (n / 2 ^ 1) &&& nI 1431655765) = _
    rw [fa_and]
    have : n / 2 ^ 1 &&& 1431655765 ≤ n / 2 ^ 1 := Nat.and_le_left
    rw [pk_sub (by omega)]
  have la : n - (n / 2 &&& 1431655765) < 2 ^ 17 := by omega
  unfold f_bcI f_bc
  rw [A]
  generalize n - (n / 2 &&& 1431655765) = a at la ⊢
  have B : (nI a &&& 858993459) + (n_ush (nI a) 2 &&& 858993459) = nI ((a &&& 858993459) + (a / 4 &&& 858993459)) := by
    rw [n_ush_eq (by omega) 2 2 (by decide)]
    show (nI a &&& nI 858993459) + (nI (a / 2 ^ 2) &&& nI 858993459) = _
    rw [fa_and, fa_and, nI_add]
  have l1 : a &&& 858993459 ≤ a := Nat.and_le_left
  have l2 : a / 4 &&& 858993459 ≤ a / 4 := Nat.and_le_left
  have lb : (a &&& 858993459) + (a / 4 &&& 858993459) < 2 ^ 18 := by omega
  simp only [B]
  generalize (a &&& 858993459) + (a / 4 &&& 858993459) = b at lb ⊢
  have C : nI b + n_ush (nI b) 4 &&& 252645135 = nI (b + b / 16 &&& 252645135) := by
    rw [n_ush_eq (by omega) 4 4 (by decide), nI_add]
    show nI (b + b / 2 ^ 4) &&& nI 252645135 = _
    rw [fa_and]
  have l3 : b + b / 16 &&& 252645135 ≤ b + b / 16 := Nat.and_le_left
  have lc : b + b / 16 &&& 252645135 < 2 ^ 19 := by omega
  simp only [C]
  generalize b + b / 16 &&& 252645135 = d at lc ⊢
  have D : nI d + n_ush (nI d) 8 = nI (d + d / 256) := by
    rw [n_ush_eq (by omega) 8 8 (by decide), nI_add]
  simp only [D]
  have ld : d + d / 256 < 2 ^ 20 := by omega
  generalize d + d / 256 = g at ld ⊢
  rw [n_ush_eq (by omega) 16 16 (by decide), nI_add]
  show nI (g + g / 2 ^ 16) &&& nI 63 = _
  rw [fa_and]
def S_bitCount : fSp := fun G As M R => match As with
  | [.int z] => ∃ n, z = nI n ∧ n < 2 ^ 17 ∧ R G (some (.int (nI (f_pc n)))) M
  | _ => False
set_option maxRecDepth 20000 in
theorem m_bitCount : f_Meets 1 kJ6_bitCount_0f7a4 S_bitCount := by
  intro G As M R hsp X hX hW
  match As, hsp with
  | [.int z], ⟨n, hz, hn, hsp⟩ =>
    subst hz
    refine f_run_ok (stop := fun _ => false) hX 50 _ _ _ _ _ ?_
    refine f_fin hsp ?_ rfl
    rw [← f_bc_pc hn, ← f_bcI_eq hn]
    rfl
def f_hard (rs : List fRl) (f t c k x : Nat) : Bool := rs.any (fun q => !q.1 && (decide (0 < q.2.1) && f_hold q.2.2 f t c k x))
def f_frb (rs : List fRl) (f t c k : Nat) : Nat := f_bits t (fun x => decide (f < x) && !f_hard rs f t c k x)
def S_free : fSp := fun G As M R => match As with
  | [.ref 37] => ∃ (rs : List fRl) (f t c k : Nat), G = f_GX ∧ f_YR M 5 rs ∧ f_JD M f t c k ∧ (∀ M', f_ex [38] [] M M' → R G (some (.int (nI (f_frb rs f t c k)))) M')
  | _ => False
set_option maxRecDepth 20000 in
theorem m_free : f_Meets 3 (kX3_freeNotches S_inner S_at S_holding) S_free := by
  intro G As M R hsp X hX hW
  match As, hsp with
  | [.ref 37], ⟨rs, f, t, c, k, hG, hY, hJ, hsp⟩ =>
    subst hG
    have ht17 := hJ.2.1
    have hp : 2 ^ t ≤ 2 ^ 17 := Nat.pow_le_pow_right (by decide) ht17
    have hY0 := hY
    obtain ⟨y1, y2, y3, y4⟩ := hY0
    have loop : ∀ (n r : Nat) (M' : fMem), r + n = rs.length → f_ex [38] [] M M' → X f_GX 7 [some (.ref 37), some (.int (nI (f_frb (rs.take r) f t c k))), some (.int (nI r))] [] M' := by
      intro n
      induction n with
      | zero =>
        intro r M' hr he
        refine f_run_ok (stop := fun q => Nat.beq q 7) hX 30 _ _ _ _ _ ?_
        refine And.intro (fun h => ?_) (fun h => ?_)
        · exact f_fin (hsp M' he) (by rw [show r = rs.length by omega, List.take_length]) rfl
        · refine absurd ?_ h
          show M'.1 5 2 ≤ nI r
          rw [he.1 5 (by decide), y3]
          exact nI_le (by omega) (by omega)
      | succ n ih =>
        intro r M' hr he
        obtain ⟨q, hq⟩ : ∃ q, rs[r]? = some q := ⟨rs[r], List.getElem?_eq_getElem (by omega)⟩
        obtain ⟨d1, d2, d3, d4, d5, d6⟩ := y4 r q hq
        have hY' := hY.ex he (by decide) (by decide) (by decide) (by decide) (by decide)
        have hJ' := hJ.ex he (by decide)
        have tk : rs.take (r + 1) = rs.take r ++ [q] := by rw [List.take_add_one, hq]; rfl
        have e1 : f_at (10, M'.1 6) (nI r) = f_b q.1 := by
          rw [f_at_in (t := (10, M'.1 6)) (j := r) (by show r < 10; omega) (by show 10 < _; decide)]
          show M'.1 6 r = _
          rw [he.1 6 (by decide)]; exact d1
        have e2 : f_at (10, M'.1 7) (nI r) = nI q.2.1 := by
          rw [f_at_in (t := (10, M'.1 7)) (j := r) (by show r < 10; omega) (by show 10 < _; decide)]
          show M'.1 7 r = _
          rw [he.1 7 (by decide)]; exact d2
        have skip : (∀ x, (!q.1 && (decide (0 < q.2.1) && f_hold q.2.2 f t c k x)) = false) → f_frb (rs.take (r + 1)) f t c k = f_frb (rs.take r) f t c k := by
          intro h
          refine f_bits_ext fun x hx => ?_
          unfold f_hard
          rw [tk, List.any_append]
          simp [h x]
        refine f_run_ok (stop := fun q => Nat.beq q 7) hX 40 _ _ _ _ _ ?_
        refine And.intro (fun h => ?_) (fun h => ?_)
        · have h : M'.1 5 2 ≤ nI r := h
          rw [he.1 5 (by decide), y3] at h
          have := (nI_leI (by omega) (by omega)).mp h
          omega
        · refine And.intro (fun h2 => ?_) (fun h2 => ?_)
          · have h2 : f_at (10, M'.1 6) (nI r) = 0 := h2
            rw [e1] at h2
            have hq1 := f_b0.mp h2
            refine And.intro (fun h3 => ?_) (fun h3 => ?_)
            · have h3 : f_at (10, M'.1 7) (nI r) ≤ 0 := h3
              rw [e2] at h3
              have h3 := (nI_leI (b := 0) (by omega) (by omega)).mp h3
              have := ih (r + 1) M' (by omega) he
              rw [skip (fun x => by simp [show ¬ 0 < q.2.1 by omega]), nI_succ] at this
              exact this
            · have h3 : ¬ f_at (10, M'.1 7) (nI r) ≤ 0 := h3
              rw [e2] at h3
              have h3 : ¬ q.2.1 ≤ 0 := fun z => h3 ((nI_leI (b := 0) (by omega) (by omega)).mpr z)
              refine ⟨rs, r, q, f, t, c, k, rfl, rfl, hq, hY', hJ', fun M2 he2 => ?_⟩
              have := ih (r + 1) M2 (by omega) (he.tr he2)
              have hb1 : f_frb (rs.take r) f t c k < 2 ^ t := f_bits_lt _ _
              have e3 : f_frb (rs.take (r + 1)) f t c k = f_bits t (fun x => (f_frb (rs.take r) f t c k).testBit x && !(f_hb q.2.2 f t c k).testBit x) := by
                refine f_bits_ext fun x hx => ?_
                unfold f_frb f_hb
                rw [f_bits_test, f_bits_test]
                unfold f_hard
                rw [tk, List.any_append]
                by_cases hfx : f < x
                · simp [hx, hfx, hq1, show 0 < q.2.1 by omega]
                · simp [hfx]
              rw [e3, ← n_andnot hb1 (by omega), nI_succ] at this
              exact this
          · have h2 : ¬ f_at (10, M'.1 6) (nI r) = 0 := h2
            rw [e1] at h2
            have hq1 : q.1 = true := by
              cases hb : q.1 with
              | true => rfl
              | false => exact absurd (f_b0.mpr hb) h2
            have := ih (r + 1) M' (by omega) he
            rw [skip (fun x => by simp [hq1]), nI_succ] at this
            exact this
    refine f_run_ok (stop := fun q => Nat.beq q 7) hX 30 _ _ _ _ _ ?_
    refine ⟨f, t, c, k, rfl, hJ, ?_⟩
    have := loop rs.length 0 M (by omega) f_ex.rf
    have e0 : f_frb (rs.take 0) f t c k = f_inb f t := f_bits_ext fun x hx => by simp [f_hard]
    rw [e0] at this
    exact this
