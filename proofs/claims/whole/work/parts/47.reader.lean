/-! ===== Reader of the class ===== -/
def f_RD (M : fMem) (T : Nat → Nat) (n p : Nat) : Prop := M.1 27 2 = nI p ∧ p ≤ n ∧ M.1 1 8 = nI n ∧ n ≤ 100 ∧ ∀ i, i < n → M.1 10 i = nI (T i) ∧ T i < 128
def f_CD (M : fMem) (B : Nat) (C : List Nat) : Prop := M.1 28 3 = nI (B + C.length) ∧ ∀ j t, C[j]? = some t → M.1 32 (B + j) = f_enc t
def f_PQ (M M' : fMem) : Prop := f_ex [27, 28, 32] [] M M' ∧ M'.1 27 3 = M.1 27 3 ∧ M'.1 27 4 = M.1 27 4 ∧ ∀ i, i ≠ 3 → M'.1 28 i = M.1 28 i
theorem f_PQ.rf {M : fMem} : f_PQ M M := ⟨f_ex.rf, rfl, rfl, fun _ _ => rfl⟩
theorem f_PQ.tr {M M1 M2 : fMem} (h1 : f_PQ M M1) (h2 : f_PQ M1 M2) : f_PQ M M2 := ⟨h1.1.tr h2.1, h2.2.1.trans h1.2.1, h2.2.2.1.trans h1.2.2.1, fun i hi => (h2.2.2.2 i hi).trans (h1.2.2.2 i hi)⟩
theorem f_RD.lt {M : fMem} {T : Nat → Nat} {n p : Nat} (h : f_RD M T n p) : ∀ i, i < n → T i < 128 := fun i hi => (h.2.2.2.2 i hi).2
theorem f_RD.up {M : fMem} {T : Nat → Nat} {n p : Nat} (h : f_RD M T n p) {q : Nat} (hq : q ≤ n) : f_RD (f_up M.1 27 2 (nI q), M.2) T n q := ⟨rfl, hq, h.2.2.1, h.2.2.2.1, h.2.2.2.2⟩
theorem f_PQ.sp {M : fMem} (v : Int32) : f_PQ M (f_up M.1 27 2 v, M.2) := ⟨f_ex.rf.up (by decide), rfl, rfl, fun _ _ => rfl⟩
theorem f_CD.sp {M : fMem} {B : Nat} {C : List Nat} (h : f_CD M B C) (v : Int32) : f_CD (f_up M.1 27 2 v, M.2) B C := h
theorem f_up_up (f : Nat → Nat → Int32) (c k : Nat) (v w : Int32) : f_up (f_up f c k v) c k w = f_up f c k w := by
  funext x y
  unfold f_up
  by_cases h1 : x = c
  · by_cases h2 : y = k
    · simp [h1, h2]
    · simp [h1, h2]
  · simp [h1]
def S_sg : fSp := fun G As M R => match As with
  | [.ref 27] => ∃ (T : Nat → Nat) (n p : Nat), G = f_GX ∧ f_RD M T n p ∧ R G (some (.int (f_sg T n p))) M
  | _ => False
theorem m_sg : f_Meets 1 kX5_sign S_sg := by
  intro G As M R hsp X hX hW
  match As, hsp with
  | [.ref 27], ⟨T, n, p, hG, ⟨h1, h2, h3, h4, h5⟩, hsp⟩ =>
    subst hG
    unfold f_sg at hsp
    refine f_run_ok (stop := fun _ => false) hX 30 _ _ _ _ _ ?_
    refine And.intro (fun h => ?_) (fun h => ?_)
    · have h : M.1 27 2 < 0 := h
      rw [h1] at h
      exact absurd ((nI_ltI (b := 0) (by omega) (by omega)).mp h) (by omega)
    · refine And.intro (fun h6 => ?_) (fun h6 => ?_)
      · have h6 : M.1 1 8 ≤ M.1 27 2 := h6
        rw [h1, h3] at h6
        have h6 := (nI_leI (by omega) (by omega)).mp h6
        exact f_fin hsp (by rw [if_neg (by omega)]) rfl
      · have h6 : ¬ M.1 1 8 ≤ M.1 27 2 := h6
        rw [h1, h3] at h6
        have h6 : ¬ n ≤ p := fun z => h6 (nI_le z (by omega))
        refine And.intro (fun h7 => ?_) (fun h7 => ?_)
        · have h7 : nI 100 ≤ M.1 27 2 := h7
          rw [h1] at h7
          exact absurd ((nI_leI (by omega) (by omega)).mp h7) (by omega)
        · have e : M.1 27 2 = nI p := h1
          refine And.intro ?_ ?_
          · show vp_in (M.1 27 2) 100
            rw [e]; exact vp_in_nI (by omega) (by omega)
          · refine f_fin hsp ?_ rfl
            rw [if_pos (by omega)]
            show _ = some (Value.int (M.1 10 (M.1 27 2).toNatClampNeg))
            rw [e, nI_clamp (by omega), (h5 p (by omega)).1]
def S_tks : fSp := fun G As M R => match As with
  | [.ref 27, .int z] => ∃ (T : Nat → Nat) (n p c : Nat), G = f_GX ∧ z = nI c ∧ c < 1000 ∧ f_RD M T n p ∧ (f_is T n p c = true → R G (some (.int 1)) (f_up M.1 27 2 (nI (p + 1)), M.2)) ∧ (f_is T n p c = false → R G (some (.int 0)) M)
  | _ => False
theorem m_tks : f_Meets 2 (kX5_takes S_sg) S_tks := by
  intro G As M R hsp X hX hW
  match As, hsp with
  | [.ref 27, .int z], ⟨T, n, p, c, hG, hz, hc, hD, y1, y2⟩ =>
    subst hG; subst hz
    refine f_run_ok (stop := fun _ => false) hX 30 _ _ _ _ _ ?_
    refine ⟨T, n, p, rfl, hD, ?_⟩
    refine And.intro (fun h => ?_) (fun h => ?_)
    · have h := (f_sg_eq hD.lt hc).mp h
      refine And.intro rfl (f_fin (y1 h) rfl ?_)
      show _ = (f_up M.1 27 2 (M.1 27 2 + 1), M.2)
      rw [hD.1, nI_succ]
    · have h : ¬ f_is T n p c = true := fun z => h ((f_sg_eq hD.lt hc).mpr z)
      exact And.intro rfl (y2 (by simpa using h))
def S_nmb : fSp := fun G As M R => match As with
  | [.ref 27] => ∃ (T : Nat → Nat) (n p : Nat), G = f_GX ∧ f_RD M T n p ∧ (∀ v q, f_num T n p = some (v, q) → R G (some (.int (nI v))) (f_up M.1 27 2 (nI q), M.2)) ∧ (f_num T n p = none → R G (some (.int (-1))) M)
  | _ => False
set_option maxRecDepth 20000 in
theorem m_nmb : f_Meets 3 (kX5_number S_sg) S_nmb := by
  intro G As M R hsp X hX hW
  match As, hsp with
  | [.ref 27], ⟨T, n, p, hG, hD, y1, y2⟩ =>
    subst hG
    cases hd : f_dg T n p with
    | none =>
      have hb := f_dg_none hD.lt hd
      have y2 := y2 (by unfold f_num; rw [hd])
      refine f_run_ok (stop := fun _ => false) hX 30 _ _ _ _ _ ?_
      refine ⟨T, n, p, rfl, hD, ?_⟩
      refine And.intro (fun h => y2) (fun h => ?_)
      refine And.intro (fun h2 => ?_) (fun h2 => y2)
      rcases hb with hb | hb
      · exact absurd hb h
      · exact absurd h2 (Int32.not_le.mpr hb)
    | some d =>
      obtain ⟨e1, e2, e3, e4⟩ := f_dg_some hd
      refine f_run_ok (stop := fun _ => false) hX 60 _ _ _ _ _ ?_
      refine ⟨T, n, p, rfl, hD, ?_⟩
      refine And.intro (fun h => ?_) (fun h => ?_)
      · have h : f_sg T n p - 48 < 0 := h
        rw [e1] at h
        exact absurd ((nI_ltI (b := 0) (by omega) (by omega)).mp h) (by omega)
      · refine And.intro (fun h2 => ?_) (fun h2 => ?_)
        · have hM1 : ((f_up M.1 27 2 (M.1 27 2 + 1), M.2) : fMem) = (f_up M.1 27 2 (nI (p + 1)), M.2) := by rw [hD.1, nI_succ]
          refine ⟨T, n, p + 1, rfl, by rw [hM1]; exact hD.up (by omega), ?_⟩
          refine And.intro (fun h3 => ?_) (fun h3 => ?_)
          · have h3 : f_sg T n p - 48 = 0 := h3
            rw [e1] at h3
            have h3 : d = 0 := (nI_eq (b := 0) (by omega) (by omega)).mp h3
            have y := y1 0 (p + 1) (by unfold f_num; rw [hd]; show (if d = 0 then _ else _) = _; rw [if_pos h3])
            refine f_fin y ?_ hM1.symm
            show _ = some (Value.int (f_sg T n p - 48))
            rw [e1, h3]
          · have h3 : ¬ f_sg T n p - 48 = 0 := h3
            rw [e1] at h3
            have h3 : ¬ d = 0 := fun z => h3 (by rw [z]; rfl)
            cases hd2 : f_dg T n (p + 1) with
            | none =>
              have hb := f_dg_none hD.lt hd2
              have y := y1 d (p + 1) (by unfold f_num; rw [hd]; show (if d = 0 then _ else match f_dg T n (p + 1) with | none => _ | some e => _) = _; rw [if_neg h3, hd2])
              have y' : R f_GX (some (.int (f_sg T n p - 48))) (f_up M.1 27 2 (M.1 27 2 + 1), M.2) := f_fin y (by rw [e1]) hM1.symm
              refine And.intro (fun h4 => y') (fun h4 => ?_)
              refine And.intro (fun h5 => ?_) (fun h5 => y')
              rcases hb with hb | hb
              · exact absurd hb h4
              · exact absurd h5 (Int32.not_le.mpr hb)
            | some e =>
              obtain ⟨g1, g2, g3, g4⟩ := f_dg_some hd2
              have y := y1 (d * 10 + e) (p + 2) (by unfold f_num; rw [hd]; show (if d = 0 then _ else match f_dg T n (p + 1) with | none => _ | some e => _) = _; rw [if_neg h3, hd2])
              refine And.intro (fun h4 => ?_) (fun h4 => ?_)
              · have h4 : f_sg T n (p + 1) - 48 < 0 := h4
                rw [g1] at h4
                exact absurd ((nI_ltI (b := 0) (by omega) (by omega)).mp h4) (by omega)
              · refine And.intro (fun h5 => ?_) (fun h5 => ?_)
                · refine f_fin y ?_ ?_
                  · show _ = some (Value.int ((f_sg T n p - 48) * 10 + (f_sg T n (p + 1) - 48)))
                    rw [e1, g1, show (nI d * 10 : Int32) = nI (d * 10) from pk_mul d 10, nI_add]
                  · show _ = (f_up (f_up M.1 27 2 (M.1 27 2 + 1)) 27 2 (f_up M.1 27 2 (M.1 27 2 + 1) 27 2 + 1), M.2)
                    rw [f_up_up]
                    show _ = (f_up M.1 27 2 (M.1 27 2 + 1 + 1), M.2)
                    rw [hD.1, ← nI_succ, ← nI_succ]
                · have h5 : ¬ f_sg T n (p + 1) - 48 ≤ 9 := h5
                  rw [g1] at h5
                  exact absurd (nI_le (b := 9) g2 (by omega)) h5
        · have h2 : ¬ f_sg T n p - 48 ≤ 9 := h2
          rw [e1] at h2
          exact absurd (nI_le (b := 9) e2 (by omega)) h2
def S_ac : fSp := fun G As M R => match As with
  | [.ref 28, .int z] => ∃ (B : Nat) (C : List Nat) (t : Nat), G = f_GX ∧ z = f_enc t ∧ f_CD M B C ∧ B + C.length < 100 ∧ (∀ M', f_ex [28, 32] [] M M' → (∀ i, i ≠ 3 → M'.1 28 i = M.1 28 i) → f_CD M' B (C ++ [t]) → (∀ i, i < B → M'.1 32 i = M.1 32 i) → R G none M')
  | _ => False
theorem m_ac : f_Meets 2 (kX10_addCode S_put) S_ac := by
  intro G As M R hsp X hX hW
  match As, hsp with
  | [.ref 28, .int z], ⟨B, C, t, hG, hz, ⟨c1, c2⟩, hb, hsp⟩ =>
    subst hG; subst hz
    refine f_run_ok (stop := fun _ => false) hX 30 _ _ _ _ _ ?_
    show R f_GX none (f_up (f_pt 100 32 (M.1 28 3) (f_enc t) M).1 28 3 ((f_pt 100 32 (M.1 28 3) (f_enc t) M).1 28 3 + 1), (f_pt 100 32 (M.1 28 3) (f_enc t) M).2)
    rw [c1, f_pt_in (n := 100) hb (by decide)]
    refine hsp _ ((f_ex.rf.up (by decide)).up (c := 28) (by decide)) (fun i hi => ?_) ⟨?_, fun j y hj => ?_⟩ (fun i hi => ?_)
    · show (if 28 = 28 then (if i = 3 then M.1 28 3 + 1 else M.1 28 i) else M.1 28 i) = M.1 28 i
      rw [if_pos rfl, if_neg hi]
    · show M.1 28 3 + 1 = _
      rw [c1, f_app1, ← nI_succ]; rfl
    · show (if 32 = 32 then (if B + j = B + C.length then f_enc t else M.1 32 (B + j)) else M.1 32 (B + j)) = f_enc y
      rw [if_pos rfl]
      by_cases e : j = C.length
      · rw [if_pos (by omega)]
        rw [e, List.getElem?_append_right (Nat.le_refl _), Nat.sub_self] at hj
        cases hj; rfl
      · have hl := (List.getElem?_eq_some_iff.mp hj).1
        rw [f_app1] at hl
        rw [if_neg (by omega)]
        rw [List.getElem?_append_left (by omega)] at hj
        exact c2 j y hj
    · show (if 32 = 32 then (if i = B + C.length then f_enc t else M.1 32 i) else M.1 32 i) = M.1 32 i
      rw [if_pos rfl, if_neg (by omega)]
theorem f_RD.ac {M M' : fMem} {T : Nat → Nat} {n p : Nat} (h : f_RD M T n p) (he : f_ex [28, 32] [] M M') : f_RD M' T n p := by
  obtain ⟨h1, h2, h3, h4, h5⟩ := h
  exact ⟨by rw [he.1 27 (by decide)]; exact h1, h2, by rw [he.1 1 (by decide)]; exact h3, h4, fun i hi => by rw [he.1 10 (by decide)]; exact h5 i hi⟩
theorem f_PQ.ac {M M' : fMem} (he : f_ex [28, 32] [] M M') (h : ∀ i, i ≠ 3 → M'.1 28 i = M.1 28 i) : f_PQ M M' := ⟨he.mono (by decide) (by simp), by rw [he.1 27 (by decide)], by rw [he.1 27 (by decide)], h⟩
/-- what a reading of the class says -/
def f_rdo (M : fMem) (T : Nat → Nat) (n B : Nat) (r : fRs) (R : fR) : Prop := ∀ M', f_PQ M M' → f_RD M' T n r.2.1 → f_CD M' B r.2.2 → (∀ i, i < B → M'.1 32 i = M.1 32 i) → R f_GX (some (.int (f_b r.1))) M'
theorem f_rdo.of {M M1 : fMem} {T : Nat → Nat} {n B : Nat} {r : fRs} {R : fR} (h : f_rdo M T n B r R) (h1 : f_PQ M M1) (h2 : ∀ i, i < B → M1.1 32 i = M.1 32 i) : f_rdo M1 T n B r R := fun M' a b c d => h M' (h1.tr a) b c (fun i hi => (d i hi).trans (h2 i hi))
def S_rt : fSp := fun G As M R => match As with
  | [.ref 27] => ∃ (T : Nat → Nat) (n p B : Nat) (C : List Nat), G = f_GX ∧ f_RD M T n p ∧ f_CD M B C ∧ B + C.length ≤ p ∧ f_rdo M T n B (f_ptst T n p C) R
  | _ => False
def S_rd (o : Nat) (F : (Nat → Nat) → Nat → Nat → List Nat → fRs) : fSp := fun G As M R => match As with
  | [.ref 27, .int z] => ∃ (T : Nat → Nat) (n p B : Nat) (C : List Nat), G = f_GX ∧ z + nI o = 5 ∧ o ≤ 5 ∧ f_RD M T n p ∧ f_CD M B C ∧ B + C.length ≤ p ∧ f_rdo M T n B (F T n p C) R
  | _ => False
def S_rF (o : Nat) : fSp := S_rd o (fun T n => f_pf T n o)
def S_rB (o : Nat) : fSp := S_rd o (fun T n => f_pb T n (f_pf T n o))
def S_rE (o : Nat) : fSp := S_rd o (fun T n => f_pe T n (f_pf T n o))
theorem f_let_at {T : Nat → Nat} {n p c a : Nat} (h : f_is T n p c = true) (hc : (c = 120 ∧ a = 0) ∨ (c = 114 ∧ a = 1) ∨ (c = 108 ∧ a = 2) ∨ (c = 99 ∧ a = 3) ∨ (c = 107 ∧ a = 4)) : f_let T n p = some a := by
  obtain ⟨h1, h2⟩ := of_decide_eq_true h
  rcases hc with ⟨rfl, rfl⟩ | ⟨rfl, rfl⟩ | ⟨rfl, rfl⟩ | ⟨rfl, rfl⟩ | ⟨rfl, rfl⟩ <;> simp [f_let, f_is, h1, h2]
theorem f_let_no {T : Nat → Nat} {n p : Nat} (h1 : ¬ f_is T n p 120 = true) (h2 : ¬ f_is T n p 114 = true) (h3 : ¬ f_is T n p 108 = true) (h4 : ¬ f_is T n p 99 = true) (h5 : ¬ f_is T n p 107 = true) : f_let T n p = none := by
  unfold f_let
  rw [if_neg h1, if_neg h2, if_neg h3, if_neg h4, if_neg h5]
theorem f_cm_at {T : Nat → Nat} {n p c a : Nat} (h : f_is T n p c = true) (hc : (c = 60 ∧ a = 0) ∨ (c = 61 ∧ a = 1) ∨ (c = 62 ∧ a = 2)) : f_cm T n p = some a := by
  obtain ⟨h1, h2⟩ := of_decide_eq_true h
  rcases hc with ⟨rfl, rfl⟩ | ⟨rfl, rfl⟩ | ⟨rfl, rfl⟩ <;> simp [f_cm, f_is, h1, h2]
theorem f_cm_no {T : Nat → Nat} {n p : Nat} (h1 : ¬ f_is T n p 60 = true) (h2 : ¬ f_is T n p 61 = true) (h3 : ¬ f_is T n p 62 = true) : f_cm T n p = none := by
  unfold f_cm
  rw [if_neg h1, if_neg h2, if_neg h3]
set_option maxRecDepth 20000 in
theorem m_rt : f_Meets 4 (kX5_readsTest S_sg S_nmb S_ac) S_rt := by
  intro G As M R hsp X hX hW
  match As, hsp with
  | [.ref 27], ⟨T, n, p, B, C, hG, hD, hC, hbp, hsq⟩ =>
    subst hG
    have eqv : ∀ q c, c < 1000 → (f_sg T n q = nI c ↔ f_is T n q c = true) := fun q c hc => f_sg_eq hD.lt hc
    -- behind the letter
    have cmp : ∀ a, f_let T n p = some a → X f_GX 83 [some (.ref 27), some (.int (nI a)), none, none] [] M := by
      intro a ha
      obtain ⟨a5, hpn⟩ := f_let_ok ha
      have hD1 := hD.up (q := p + 1) (by omega)
      have num : ∀ b (M1 : fMem), M1 = (f_up M.1 27 2 (nI (p + 1)), M.2) → f_cm T n (p + 1) = some b → X f_GX 141 [some (.ref 27), some (.int (nI a)), some (.int (nI b)), none] [] M1 := by
        intro b M1 hM1 hb
        subst hM1
        obtain ⟨b3, hpn2⟩ := f_cm_ok hb
        have hD2 := hD.up (q := p + 2) (by omega)
        have hM2 : ((f_up (f_up M.1 27 2 (nI (p + 1))) 27 2 (f_up M.1 27 2 (nI (p + 1)) 27 2 + 1), M.2) : fMem) = (f_up M.1 27 2 (nI (p + 2)), M.2) := by
          rw [f_up_up]
          show (f_up M.1 27 2 (nI (p + 1) + 1), M.2) = _
          rw [← nI_succ]
        refine f_run_ok (stop := fun q => Nat.beq q 151) hX 60 _ _ _ _ _ ?_
        show X f_GX 151 [some (.ref 27), some (.int (nI a)), some (.int (nI b)), none] [] (f_up (f_up M.1 27 2 (nI (p + 1))) 27 2 (f_up M.1 27 2 (nI (p + 1)) 27 2 + 1), M.2)
        rw [hM2]
        refine f_run_ok (stop := fun q => Nat.beq q 162) hX 60 _ _ _ _ _ ?_
        refine ⟨T, n, p + 2, rfl, hD2, fun v q hv => ?_, fun hv => ?_⟩
        · obtain ⟨v1, v2, v3⟩ := f_num_ok hv
          have hres : f_ptst T n p C = (true, q, C ++ [(a * 3 + b) * 100 + v]) := by simp only [f_ptst, ha, hb, hv]
          rw [hres] at hsq
          refine And.intro (fun h => ?_) (fun h => absurd (nI_le (a := 0) (by omega) (by omega)) h)
          have hMq : ((f_up (f_up M.1 27 2 (nI (p + 2))) 27 2 (nI q), M.2) : fMem) = (f_up M.1 27 2 (nI q), M.2) := by rw [f_up_up]
          show X f_GX 162 [some (.ref 27), some (.int (nI a)), some (.int (nI b)), some (.int (nI v))] [] (f_up (f_up M.1 27 2 (nI (p + 2))) 27 2 (nI q), M.2)
          rw [hMq]
          refine f_run_ok (stop := fun _ => false) hX 60 _ _ _ _ _ ?_
          refine ⟨B, C, (a * 3 + b) * 100 + v, rfl, ?_, hC.sp _, by have := hD.2.2.2.1; omega, fun M' he h3 hCD hB => ?_⟩
          · show (nI a * 3 + nI b) * 100 + nI v = _
            rw [f_enc_test (by omega), show (nI a * 3 : Int32) = nI (a * 3) from pk_mul a 3, nI_add, show (nI (a * 3 + b) * 100 : Int32) = nI ((a * 3 + b) * 100) from pk_mul _ 100, nI_add]
          · exact And.intro rfl (hsq M' ((f_PQ.sp _).tr (f_PQ.ac he h3)) ((hD.up v3).ac he) hCD hB)
        · have hres : f_ptst T n p C = (false, p + 2, C) := by simp only [f_ptst, ha, hb, hv]
          rw [hres] at hsq
          refine And.intro (fun h => absurd h (by decide)) (fun h => ?_)
          exact And.intro rfl (hsq _ (f_PQ.sp _) hD2 (hC.sp _) (fun i hi => rfl))
      have hM1 : ((f_up M.1 27 2 (M.1 27 2 + 1), M.2) : fMem) = (f_up M.1 27 2 (nI (p + 1)), M.2) := by rw [hD.1, nI_succ]
      refine f_run_ok (stop := fun q => Nat.beq q 141) hX 20 _ _ _ _ _ ?_
      refine ⟨T, n, p + 1, rfl, by rw [hM1]; exact hD1, ?_⟩
      refine And.intro (fun h => ?_) (fun h1 => And.intro (fun h => ?_) (fun h2 => And.intro (fun h => ?_) (fun h3 => ?_)))
      · exact num 0 _ hM1 (f_cm_at ((eqv (p + 1) 60 (by omega)).mp h) (by omega))
      · exact num 1 _ hM1 (f_cm_at ((eqv (p + 1) 61 (by omega)).mp h) (by omega))
      · exact num 2 _ hM1 (f_cm_at ((eqv (p + 1) 62 (by omega)).mp h) (by omega))
      · have hno := f_cm_no (fun z => h1 ((eqv (p + 1) 60 (by omega)).mpr z)) (fun z => h2 ((eqv (p + 1) 61 (by omega)).mpr z)) (fun z => h3 ((eqv (p + 1) 62 (by omega)).mpr z))
        have hres : f_ptst T n p C = (false, p + 1, C) := by unfold f_ptst; rw [ha]; show (match f_cm T n (p + 1) with | none => _ | some b => _) = _; rw [hno]
        rw [hres] at hsq
        refine And.intro rfl ?_
        show R f_GX _ (f_up M.1 27 2 (M.1 27 2 + 1), M.2)
        rw [hM1]
        exact hsq _ (f_PQ.sp _) hD1 (hC.sp _) (fun i hi => rfl)
    refine f_run_ok (stop := fun q => Nat.beq q 83) hX 20 _ _ _ _ _ ?_
    refine ⟨T, n, p, rfl, hD, ?_⟩
    refine And.intro (fun h => ?_) (fun h1 => And.intro (fun h => ?_) (fun h2 => And.intro (fun h => ?_) (fun h3 => And.intro (fun h => ?_) (fun h4 => And.intro (fun h => ?_) (fun h5 => ?_)))))
    · exact cmp 3 (f_let_at ((eqv p 99 (by omega)).mp h) (by omega))
    · exact cmp 4 (f_let_at ((eqv p 107 (by omega)).mp h) (by omega))
    · exact cmp 2 (f_let_at ((eqv p 108 (by omega)).mp h) (by omega))
    · exact cmp 1 (f_let_at ((eqv p 114 (by omega)).mp h) (by omega))
    · exact cmp 0 (f_let_at ((eqv p 120 (by omega)).mp h) (by omega))
    · have hno := f_let_no (fun z => h5 ((eqv p 120 (by omega)).mpr z)) (fun z => h4 ((eqv p 114 (by omega)).mpr z)) (fun z => h3 ((eqv p 108 (by omega)).mpr z)) (fun z => h1 ((eqv p 99 (by omega)).mpr z)) (fun z => h2 ((eqv p 107 (by omega)).mpr z))
      have hres : f_ptst T n p C = (false, p, C) := by unfold f_ptst; rw [hno]
      rw [hres] at hsq
      exact And.intro rfl (hsq M f_PQ.rf hD hC (fun i hi => rfl))
set_option maxRecDepth 20000 in
theorem m_rB (o : Nat) : f_Meets 3 (kX5_readsBoth (S_rF o) S_sg S_ac) (S_rB o) := by
  intro G As M R hsp X hX hW
  match As, hsp with
  | [.ref 27, .int z], ⟨T, n, p, B, C, hG, hz, ho, hD, hC, hbp, hsq⟩ =>
    subst hG
    change f_rdo M T n B (f_ser T n 38 2001 (f_pf T n o) p C) R at hsq
    have hg : f_good n (f_pf T n o) := f_pf_good T n o
    have hcall : ∀ (M1 : fMem) (q : Nat) (D : List Nat) (R1 : fR), f_RD M1 T n q → f_CD M1 B D → B + D.length ≤ q → f_rdo M1 T n B ((f_pf T n o) q D) R1 → S_rF o f_GX [.ref 27, .int z] M1 R1 := fun M1 q D R1 h1 h2 h3 h4 => ⟨T, n, q, B, D, rfl, hz, ho, h1, h2, h3, h4⟩
    generalize hsub : (f_pf T n o) = sub at hsq hg hcall
    obtain ⟨g1, g2, g3⟩ := hg p C hD.2.1
    have loop : ∀ (k i q : Nat) (D : List Nat) (M1 : fMem), i + k = 100 → f_rdo M1 T n B (f_rep T n 38 2001 sub k q D) R → f_RD M1 T n q → f_CD M1 B D → B + D.length ≤ q → X f_GX 12 [some (.ref 27), some (.int z), some (.int (nI i))] [] M1 := by
      intro k
      induction k with
      | zero =>
        intro i q D M1 hi hr h1 h2 h3
        have hi : i = 100 := by omega
        subst hi
        refine f_run_ok (stop := fun _ => false) hX 20 _ _ _ _ _ ?_
        refine And.intro (fun h => ?_) (fun h => absurd (show (100 : Int32) ≤ nI 100 by decide) h)
        exact And.intro rfl (hr M1 f_PQ.rf h1 h2 (fun i hi => rfl))
      | succ k ih =>
        intro i q D M1 hi hr h1 h2 h3
        have hr' : f_rdo M1 T n B (if f_is T n q 38 = true then (if (sub (q + 1) D).1 = true then f_rep T n 38 2001 sub k (sub (q + 1) D).2.1 ((sub (q + 1) D).2.2 ++ [2001]) else sub (q + 1) D) else (true, q, D)) R := hr
        refine f_run_ok (stop := fun q => Nat.beq q 12 || Nat.beq q 37) hX 40 _ _ _ _ _ ?_
        refine And.intro (fun h => absurd ((nI_leI (a := 100) (by omega) (by omega)).mp h) (by omega)) (fun h => ?_)
        refine ⟨T, n, q, rfl, h1, ?_⟩
        refine And.intro (fun h4 => ?_) (fun h4 => ?_)
        · have h4 := (f_sg_eq (c := 38) h1.lt (by omega)).mp h4
          have hlt := f_is_lt h4
          rw [if_pos h4] at hr'
          have hM2 : ((f_up M1.1 27 2 (M1.1 27 2 + 1), M1.2) : fMem) = (f_up M1.1 27 2 (nI (q + 1)), M1.2) := by rw [h1.1, nI_succ]
          show X f_GX 37 [some (.ref 27), some (.int z), some (.int (nI i))] [] (f_up M1.1 27 2 (M1.1 27 2 + 1), M1.2)
          rw [hM2]
          obtain ⟨a1, a2, a3⟩ := hg (q + 1) D (by omega)
          refine f_run_ok (stop := fun q => Nat.beq q 42) hX 40 _ _ _ _ _ ?_
          refine hcall _ (q + 1) D _ (h1.up (by omega)) (h2.sp _) (by omega) (fun M3 p3 d3 c3 b3 => ?_)
          refine f_run_ok (stop := fun q => Nat.beq q 12) hX 20 _ _ _ _ _ ?_
          have p13 : f_PQ M1 M3 := (f_PQ.sp _).tr p3
          refine And.intro (fun h5 => ?_) (fun h5 => ?_)
          · have h5 := f_b0.mp h5
            rw [if_neg (by rw [h5]; decide)] at hr'
            refine And.intro rfl ?_
            have y := hr' M3 p13 d3 c3 b3
            rw [h5] at y
            exact y
          · have h5 := f_b_nt h5
            rw [if_pos h5] at hr'
            refine ⟨B, (sub (q + 1) D).2.2, 2001, rfl, rfl, c3, by have := h1.2.2.2.1; omega, fun M4 he h6 c4 b4 => ?_⟩
            have y := ih (i + 1) (sub (q + 1) D).2.1 ((sub (q + 1) D).2.2 ++ [2001]) M4 (by omega) (hr'.of (p13.tr (f_PQ.ac he h6)) (fun i hi => (b4 i hi).trans (b3 i hi))) (d3.ac he) c4 (by rw [f_app1]; omega)
            rw [nI_succ] at y
            exact y
        · have h4 : ¬ f_is T n q 38 = true := fun e => h4 ((f_sg_eq (c := 38) h1.lt (by omega)).mpr e)
          rw [if_neg h4] at hr'
          exact And.intro rfl (hr' M1 f_PQ.rf h1 h2 (fun i hi => rfl))
    refine f_run_ok (stop := fun q => Nat.beq q 5) hX 10 _ _ _ _ _ ?_
    refine hcall M p C _ hD hC hbp (fun M1 p1 d1 c1 b1 => ?_)
    unfold f_ser at hsq
    refine f_run_ok (stop := fun q => Nat.beq q 12) hX 20 _ _ _ _ _ ?_
    refine And.intro (fun h => ?_) (fun h => ?_)
    · have h := f_b0.mp h
      rw [if_neg (by rw [h]; decide)] at hsq
      refine And.intro rfl ?_
      have y := hsq M1 p1 d1 c1 b1
      rw [h] at y
      exact y
    · have h := f_b_nt h
      rw [if_pos h] at hsq
      exact loop 100 0 _ _ M1 rfl (hsq.of p1 b1) d1 c1 (by omega)
set_option maxRecDepth 20000 in
theorem m_rE (o : Nat) : f_Meets 3 (kX5_readsEither (S_rB o) S_sg S_ac) (S_rE o) := by
  intro G As M R hsp X hX hW
  match As, hsp with
  | [.ref 27, .int z], ⟨T, n, p, B, C, hG, hz, ho, hD, hC, hbp, hsq⟩ =>
    subst hG
    change f_rdo M T n B (f_ser T n 124 2002 (f_pb T n (f_pf T n o)) p C) R at hsq
    have hg : f_good n (f_pb T n (f_pf T n o)) := f_pb_good T n o
    have hcall : ∀ (M1 : fMem) (q : Nat) (D : List Nat) (R1 : fR), f_RD M1 T n q → f_CD M1 B D → B + D.length ≤ q → f_rdo M1 T n B ((f_pb T n (f_pf T n o)) q D) R1 → S_rB o f_GX [.ref 27, .int z] M1 R1 := fun M1 q D R1 h1 h2 h3 h4 => ⟨T, n, q, B, D, rfl, hz, ho, h1, h2, h3, h4⟩
    generalize hsub : (f_pb T n (f_pf T n o)) = sub at hsq hg hcall
    obtain ⟨g1, g2, g3⟩ := hg p C hD.2.1
    have loop : ∀ (k i q : Nat) (D : List Nat) (M1 : fMem), i + k = 100 → f_rdo M1 T n B (f_rep T n 124 2002 sub k q D) R → f_RD M1 T n q → f_CD M1 B D → B + D.length ≤ q → X f_GX 12 [some (.ref 27), some (.int z), some (.int (nI i))] [] M1 := by
      intro k
      induction k with
      | zero =>
        intro i q D M1 hi hr h1 h2 h3
        have hi : i = 100 := by omega
        subst hi
        refine f_run_ok (stop := fun _ => false) hX 20 _ _ _ _ _ ?_
        refine And.intro (fun h => ?_) (fun h => absurd (show (100 : Int32) ≤ nI 100 by decide) h)
        exact And.intro rfl (hr M1 f_PQ.rf h1 h2 (fun i hi => rfl))
      | succ k ih =>
        intro i q D M1 hi hr h1 h2 h3
        have hr' : f_rdo M1 T n B (if f_is T n q 124 = true then (if (sub (q + 1) D).1 = true then f_rep T n 124 2002 sub k (sub (q + 1) D).2.1 ((sub (q + 1) D).2.2 ++ [2002]) else sub (q + 1) D) else (true, q, D)) R := hr
        refine f_run_ok (stop := fun q => Nat.beq q 12 || Nat.beq q 37) hX 40 _ _ _ _ _ ?_
        refine And.intro (fun h => absurd ((nI_leI (a := 100) (by omega) (by omega)).mp h) (by omega)) (fun h => ?_)
        refine ⟨T, n, q, rfl, h1, ?_⟩
        refine And.intro (fun h4 => ?_) (fun h4 => ?_)
        · have h4 := (f_sg_eq (c := 124) h1.lt (by omega)).mp h4
          have hlt := f_is_lt h4
          rw [if_pos h4] at hr'
          have hM2 : ((f_up M1.1 27 2 (M1.1 27 2 + 1), M1.2) : fMem) = (f_up M1.1 27 2 (nI (q + 1)), M1.2) := by rw [h1.1, nI_succ]
          show X f_GX 37 [some (.ref 27), some (.int z), some (.int (nI i))] [] (f_up M1.1 27 2 (M1.1 27 2 + 1), M1.2)
          rw [hM2]
          obtain ⟨a1, a2, a3⟩ := hg (q + 1) D (by omega)
          refine f_run_ok (stop := fun q => Nat.beq q 42) hX 40 _ _ _ _ _ ?_
          refine hcall _ (q + 1) D _ (h1.up (by omega)) (h2.sp _) (by omega) (fun M3 p3 d3 c3 b3 => ?_)
          refine f_run_ok (stop := fun q => Nat.beq q 12) hX 20 _ _ _ _ _ ?_
          have p13 : f_PQ M1 M3 := (f_PQ.sp _).tr p3
          refine And.intro (fun h5 => ?_) (fun h5 => ?_)
          · have h5 := f_b0.mp h5
            rw [if_neg (by rw [h5]; decide)] at hr'
            refine And.intro rfl ?_
            have y := hr' M3 p13 d3 c3 b3
            rw [h5] at y
            exact y
          · have h5 := f_b_nt h5
            rw [if_pos h5] at hr'
            refine ⟨B, (sub (q + 1) D).2.2, 2002, rfl, rfl, c3, by have := h1.2.2.2.1; omega, fun M4 he h6 c4 b4 => ?_⟩
            have y := ih (i + 1) (sub (q + 1) D).2.1 ((sub (q + 1) D).2.2 ++ [2002]) M4 (by omega) (hr'.of (p13.tr (f_PQ.ac he h6)) (fun i hi => (b4 i hi).trans (b3 i hi))) (d3.ac he) c4 (by rw [f_app1]; omega)
            rw [nI_succ] at y
            exact y
        · have h4 : ¬ f_is T n q 124 = true := fun e => h4 ((f_sg_eq (c := 124) h1.lt (by omega)).mpr e)
          rw [if_neg h4] at hr'
          exact And.intro rfl (hr' M1 f_PQ.rf h1 h2 (fun i hi => rfl))
    refine f_run_ok (stop := fun q => Nat.beq q 5) hX 10 _ _ _ _ _ ?_
    refine hcall M p C _ hD hC hbp (fun M1 p1 d1 c1 b1 => ?_)
    unfold f_ser at hsq
    refine f_run_ok (stop := fun q => Nat.beq q 12) hX 20 _ _ _ _ _ ?_
    refine And.intro (fun h => ?_) (fun h => ?_)
    · have h := f_b0.mp h
      rw [if_neg (by rw [h]; decide)] at hsq
      refine And.intro rfl ?_
      have y := hsq M1 p1 d1 c1 b1
      rw [h] at y
      exact y
    · have h := f_b_nt h
      rw [if_pos h] at hsq
      exact loop 100 0 _ _ M1 rfl (hsq.of p1 b1) d1 c1 (by omega)
set_option maxRecDepth 20000 in
theorem m_rF (o : Nat) (sE sF : fSp) (hs : ∀ e, o = e + 1 → sE = S_rE e ∧ sF = S_rF e) : f_Meets 3 (kX5_readsFactor S_sg S_rt sE S_tks sF S_ac) (S_rF o) := by
  intro G As M R hsp X hX hW
  match As, hsp with
  | [.ref 27, .int z], ⟨T, n, p, B, C, hG, hz, ho, hD, hC, hbp, hsq⟩ =>
    subst hG
    change f_rdo M T n B (f_pf T n o p C) R at hsq
    have eqv : ∀ q c, c < 1000 → (f_sg T n q = nI c ↔ f_is T n q c = true) := fun q c hc => f_sg_eq hD.lt hc
    have hzv : z = nI (5 - o) := by
      have : z + nI o - nI o = 5 - nI o := by rw [hz]
      rw [Int32.add_sub_cancel] at this
      rw [this]
      exact pk_sub (a := 5) ho
    have tst : ¬ f_is T n p 33 = true → ¬ f_is T n p 40 = true → f_pf T n o p C = f_ptst T n p C := by
      intro a b
      cases o with
      | zero => unfold f_pf; rw [if_neg (fun z => z.elim a b)]
      | succ o => unfold f_pf; rw [if_neg b, if_neg a]
    refine f_run_ok (stop := fun q => Nat.beq q 22) hX 20 _ _ _ _ _ ?_
    refine ⟨T, n, p, rfl, hD, ?_⟩
    have open22 : (f_is T n p 33 = true ∨ f_is T n p 40 = true) → X f_GX 22 [some (.ref 27), some (.int z), some (.int (f_sg T n p))] [] M := by
      intro hor
      have hlt : p < n := hor.elim f_is_lt f_is_lt
      cases o with
      | zero =>
        have hres : f_pf T n 0 p C = (false, p, C) := by unfold f_pf; rw [if_pos hor]
        rw [hres] at hsq
        refine f_run_ok (stop := fun q => false) hX 10 _ _ _ _ _ ?_
        refine And.intro (fun h => ?_) (fun h => ?_)
        · rw [hzv] at h
          exact absurd h (by decide)
        · exact And.intro rfl (hsq M f_PQ.rf hD hC (fun i hi => rfl))
      | succ e =>
        obtain ⟨hE, hF⟩ := hs e rfl
        subst hE; subst hF
        have hM1 : ((f_up M.1 27 2 (M.1 27 2 + 1), M.2) : fMem) = (f_up M.1 27 2 (nI (p + 1)), M.2) := by rw [hD.1, nI_succ]
        have hD1 := hD.up (q := p + 1) (by omega)
        have hz1 : z + 1 + nI e = 5 := by
          rw [hzv]
          show nI (5 - (e + 1)) + nI 1 + nI e = 5
          rw [nI_add, nI_add, show 5 - (e + 1) + 1 + e = 5 by omega]; rfl
        refine f_run_ok (stop := fun q => Nat.beq q 39) hX 20 _ _ _ _ _ ?_
        refine And.intro (fun h => ?_) (fun h => ?_)
        · show X f_GX 39 [some (.ref 27), some (.int z), some (.int (f_sg T n p))] [] (f_up M.1 27 2 (M.1 27 2 + 1), M.2)
          rw [hM1]
          refine f_run_ok (stop := fun q => false) hX 30 _ _ _ _ _ ?_
          refine And.intro (fun h2 => ?_) (fun h2 => ?_)
          · have h2 := (eqv p 40 (by omega)).mp h2
            have hres : f_pf T n (e + 1) p C = (if (f_pe T n (f_pf T n e) (p + 1) C).1 = true then (if f_is T n (f_pe T n (f_pf T n e) (p + 1) C).2.1 41 = true then (true, (f_pe T n (f_pf T n e) (p + 1) C).2.1 + 1, (f_pe T n (f_pf T n e) (p + 1) C).2.2) else (false, (f_pe T n (f_pf T n e) (p + 1) C).2)) else f_pe T n (f_pf T n e) (p + 1) C) := by
              show (if _ then _ else _) = _
              rw [if_pos h2]
            rw [hres] at hsq
            refine ⟨T, n, p + 1, B, C, rfl, hz1, by omega, hD1, hC.sp _, by omega, fun M2 p2 d2 c2 b2 => ?_⟩
            change f_RD M2 T n (f_pe T n (f_pf T n e) (p + 1) C).2.1 at d2
            change f_CD M2 B (f_pe T n (f_pf T n e) (p + 1) C).2.2 at c2
            refine And.intro (fun h3 => ?_) (fun h3 => ?_)
            · have h3 : (f_pe T n (f_pf T n e) (p + 1) C).1 = false := f_b0.mp h3
              rw [if_neg (by rw [h3]; decide)] at hsq
              refine And.intro rfl ?_
              have y := hsq M2 ((f_PQ.sp _).tr p2) d2 c2 b2
              rw [h3] at y
              exact y
            · have h3 : (f_pe T n (f_pf T n e) (p + 1) C).1 = true := f_b_nt h3
              rw [if_pos h3] at hsq
              refine ⟨T, n, (f_pe T n (f_pf T n e) (p + 1) C).2.1, 41, rfl, rfl, by omega, d2, fun h4 => ?_, fun h4 => ?_⟩
              · rw [if_pos h4] at hsq
                refine And.intro (fun h5 => absurd h5 (by decide)) (fun h5 => ?_)
                exact And.intro rfl (hsq _ (((f_PQ.sp _).tr p2).tr (f_PQ.sp _)) (d2.up (f_is_lt h4)) (c2.sp _) b2)
              · rw [if_neg (by rw [h4]; decide)] at hsq
                refine And.intro (fun h5 => ?_) (fun h5 => absurd rfl h5)
                exact And.intro rfl (hsq M2 ((f_PQ.sp _).tr p2) d2 c2 b2)
          · have h2 : ¬ f_is T n p 40 = true := fun e => h2 ((eqv p 40 (by omega)).mpr e)
            have h33 : f_is T n p 33 = true := hor.elim id (fun z => absurd z h2)
            have hres : f_pf T n (e + 1) p C = (if (f_pf T n e (p + 1) C).1 = true then (true, (f_pf T n e (p + 1) C).2.1, (f_pf T n e (p + 1) C).2.2 ++ [2000]) else f_pf T n e (p + 1) C) := by
              show (if _ then _ else if _ then _ else _) = _
              rw [if_neg h2, if_pos h33]
            rw [hres] at hsq
            obtain ⟨a1, a2, a3⟩ := f_pf_good T n e (p + 1) C (by omega)
            refine ⟨T, n, p + 1, B, C, rfl, hz1, by omega, hD1, hC.sp _, by omega, fun M2 p2 d2 c2 b2 => ?_⟩
            change f_RD M2 T n (f_pf T n e (p + 1) C).2.1 at d2
            change f_CD M2 B (f_pf T n e (p + 1) C).2.2 at c2
            refine And.intro (fun h3 => ?_) (fun h3 => ?_)
            · have h3 : (f_pf T n e (p + 1) C).1 = false := f_b0.mp h3
              rw [if_neg (by rw [h3]; decide)] at hsq
              refine And.intro rfl ?_
              have y := hsq M2 ((f_PQ.sp _).tr p2) d2 c2 b2
              rw [h3] at y
              exact y
            · have h3 : (f_pf T n e (p + 1) C).1 = true := f_b_nt h3
              rw [if_pos h3] at hsq
              refine ⟨B, (f_pf T n e (p + 1) C).2.2, 2000, rfl, rfl, c2, by have := hD.2.2.2.1; omega, fun M4 he h6 c4 b4 => ?_⟩
              exact And.intro rfl (hsq M4 (((f_PQ.sp _).tr p2).tr (f_PQ.ac he h6)) (d2.ac he) c4 (fun i hi => (b4 i hi).trans (b2 i hi)))
        · refine absurd ?_ h
          rw [hzv]
          exact nI_lt (b := 5) (by omega) (by omega)
    refine And.intro (fun h => ?_) (fun h => ?_)
    · exact open22 (Or.inl ((eqv p 33 (by omega)).mp h))
    · refine And.intro (fun h2 => ?_) (fun h2 => ?_)
      · exact open22 (Or.inr ((eqv p 40 (by omega)).mp h2))
      · have e := tst (fun e => h ((eqv p 33 (by omega)).mpr e)) (fun e => h2 ((eqv p 40 (by omega)).mpr e))
        rw [e] at hsq
        refine ⟨T, n, p, B, C, rfl, hD, hC, hbp, fun M' a b c d => ?_⟩
        exact And.intro (f_nar _ (f_bz _)) (hsq M' a b c d)
