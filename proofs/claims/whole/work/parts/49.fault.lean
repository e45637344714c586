/-! ===== Reader of the class: clauses, the whole tape ===== -/
def S_hr : fSp := fun G As M R => match As with
  | [.ref 27] => ∃ w : Nat, G = f_GX ∧ M.1 27 3 = nI w ∧ w < 1000 ∧ R G (some (.int (f_b (decide (w = 104 ∨ w = 112))))) M
  | _ => False
theorem m_hr : f_Meets 1 kX5_hasRule S_hr := by
  intro G As M R hsp X hX hW
  match As, hsp with
  | [.ref 27], ⟨w, hG, h3, hw, hsp⟩ =>
    subst hG
    have key : ∀ c, c < 1000 → (M.1 27 3 = nI c ↔ w = c) := fun c hc => by rw [h3]; exact nI_eq (by omega) (by omega)
    refine f_run_ok (stop := fun _ => false) hX 30 _ _ _ _ _ ?_
    refine And.intro (fun h => ?_) (fun h => ?_)
    · have h := (key 104 (by omega)).mp h
      exact And.intro rfl (f_fin hsp (f_bt (decide_eq_true (Or.inl h)) rfl) rfl)
    · have h : ¬ w = 104 := fun z => h ((key 104 (by omega)).mpr z)
      refine And.intro (fun h2 => ?_) (fun h2 => ?_)
      · have h2 := (key 112 (by omega)).mp h2
        exact And.intro rfl (f_fin hsp (f_bt (decide_eq_true (Or.inr h2)) rfl) rfl)
      · have h2 : ¬ w = 112 := fun z => h2 ((key 112 (by omega)).mpr z)
        exact And.intro rfl (f_fin hsp (f_bf (decide_eq_false (fun z => z.elim h h2)) rfl) rfl)
def f_DR (M : fMem) (rs : List fRl) : Prop := M.1 28 2 = nI rs.length ∧ rs.length ≤ 10 ∧ ∀ r q, rs[r]? = some q → M.1 29 r = f_b q.1 ∧ M.1 30 r = nI q.2.1 ∧ M.1 31 r = nI (f_beg rs (r + 1)) ∧ ∀ j t, q.2.2[j]? = some t → M.1 32 (f_beg rs r + j) = f_enc t
theorem f_beg_app (rs : List fRl) (q : fRl) {r : Nat} (h : r ≤ rs.length) : f_beg (rs ++ [q]) r = f_beg rs r := by
  unfold f_beg
  rw [List.take_append_of_le_length h]
theorem f_beg_last (rs : List fRl) (q : fRl) : f_beg (rs ++ [q]) (rs.length + 1) = f_beg rs rs.length + q.2.2.length := by
  rw [f_beg_succ (rs ++ [q]) rs.length q (by rw [List.getElem?_append_right (Nat.le_refl _), Nat.sub_self]; rfl), f_beg_app rs q (Nat.le_refl _)]
def S_ar : fSp := fun G As M R => match As with
  | [.ref 28, .int zb, .int zn] => ∃ (rs : List fRl) (C : List Nat) (b : Bool) (v : Nat), G = f_GX ∧ zb = f_b b ∧ zn = nI v ∧ f_DR M rs ∧ rs.length < 10 ∧ f_CD M (f_beg rs rs.length) C ∧ (∀ M', f_ex [28, 29, 30, 31] [] M M' → (∀ i, i ≠ 2 → M'.1 28 i = M.1 28 i) → f_DR M' (rs ++ [(b, v, C)]) → f_CD M' (f_beg (rs ++ [(b, v, C)]) (rs ++ [(b, v, C)]).length) [] → R G none M')
  | _ => False
set_option maxRecDepth 20000 in
theorem m_ar : f_Meets 3 (kX10_addRule S_put) S_ar := by
  intro G As M R hsp X hX hW
  match As, hsp with
  | [.ref 28, .int zb, .int zn], ⟨rs, C, b, v, hG, hzb, hzn, ⟨d1, d2, d3⟩, hl, ⟨c1, c2⟩, hsp⟩ =>
    subst hG; subst hzb; subst hzn
    have hrl : (rs ++ [(b, v, C)]).length = rs.length + 1 := by rw [List.length_append]; rfl
    have hbl := f_beg_last rs (b, v, C)
    have fin : ∀ (M1 : fMem), M1 = (f_up M.1 29 rs.length (f_b b), M.2) → X f_GX 20 [some (.ref 28), some (.int (f_b b)), some (.int (nI v))] [] M1 := by
      intro M1 hM1
      subst hM1
      refine f_run_ok (stop := fun q => Nat.beq q 32) hX 20 _ _ _ _ _ ?_
      show X f_GX 32 [some (.ref 28), some (.int (f_b b)), some (.int (nI v))] [] (f_pt 10 30 (M.1 28 2) (nI v) (f_up M.1 29 rs.length (f_b b), M.2))
      rw [d1, f_pt_in (n := 10) hl (by decide)]
      refine f_run_ok (stop := fun q => Nat.beq q 47) hX 20 _ _ _ _ _ ?_
      show X f_GX 47 [some (.ref 28), some (.int (f_b b)), some (.int (nI v))] [] (f_pt 10 31 (M.1 28 2) (M.1 28 3) (f_up (f_up M.1 29 rs.length (f_b b)) 30 rs.length (nI v), M.2))
      rw [d1, f_pt_in (n := 10) hl (by decide)]
      refine f_run_ok (stop := fun q => false) hX 20 _ _ _ _ _ ?_
      refine hsp (f_up (f_up (f_up (f_up M.1 29 rs.length (f_b b)) 30 rs.length (nI v)) 31 rs.length (M.1 28 3)) 28 2 (M.1 28 2 + 1), M.2) ((((f_ex.rf.up (by decide)).up (c := 30) (by decide)).up (c := 31) (by decide)).up (c := 28) (by decide)) (fun i hi => ?_) ⟨?_, by omega, fun r q hq => ?_⟩ ⟨?_, fun j t hj => by simp at hj⟩
      · show (if 28 = 28 then (if i = 2 then M.1 28 2 + 1 else M.1 28 i) else M.1 28 i) = M.1 28 i
        rw [if_pos rfl, if_neg hi]
      · show M.1 28 2 + 1 = _
        rw [d1, hrl, nI_succ]
      · have e29 : (f_up (f_up (f_up (f_up M.1 29 rs.length (f_b b)) 30 rs.length (nI v)) 31 rs.length (M.1 28 3)) 28 2 (M.1 28 2 + 1)) 29 r = if r = rs.length then f_b b else M.1 29 r := rfl
        have e30 : (f_up (f_up (f_up (f_up M.1 29 rs.length (f_b b)) 30 rs.length (nI v)) 31 rs.length (M.1 28 3)) 28 2 (M.1 28 2 + 1)) 30 r = if r = rs.length then nI v else M.1 30 r := rfl
        have e31 : (f_up (f_up (f_up (f_up M.1 29 rs.length (f_b b)) 30 rs.length (nI v)) 31 rs.length (M.1 28 3)) 28 2 (M.1 28 2 + 1)) 31 r = if r = rs.length then M.1 28 3 else M.1 31 r := rfl
        by_cases e : r = rs.length
        · subst e
          rw [List.getElem?_append_right (Nat.le_refl _), Nat.sub_self] at hq
          cases hq
          refine ⟨e29.trans (if_pos rfl), e30.trans (if_pos rfl), (e31.trans (if_pos rfl)).trans (by rw [c1, hbl]), fun j t hj => ?_⟩
          rw [f_beg_app rs _ (Nat.le_refl _)]
          exact c2 j t hj
        · have hr : r < rs.length := by
            have := (List.getElem?_eq_some_iff.mp hq).1
            omega
          rw [List.getElem?_append_left hr] at hq
          obtain ⟨q1, q2, q3, q4⟩ := d3 r q hq
          refine ⟨(e29.trans (if_neg e)).trans q1, (e30.trans (if_neg e)).trans q2, (e31.trans (if_neg e)).trans (by rw [f_beg_app rs _ (by omega)]; exact q3), fun j t hj => ?_⟩
          rw [f_beg_app rs _ (by omega)]
          exact q4 j t hj
      · show M.1 28 3 = _
        rw [c1, hrl, hbl]; rfl
    refine f_run_ok (stop := fun q => Nat.beq q 20) hX 20 _ _ _ _ _ ?_
    refine And.intro (fun h => ?_) (fun h => ?_)
    · have h : b = false := f_b0.mp h
      refine fin _ ?_
      show f_pt 10 29 (M.1 28 2) 0 M = _
      rw [d1, f_pt_in (n := 10) hl (by decide), h]; rfl
    · have h : b = true := f_b_nt h
      refine fin _ ?_
      show f_pt 10 29 (M.1 28 2) 1 M = _
      rw [d1, f_pt_in (n := 10) hl (by decide), h]; rfl
abbrev fYd : Type := Nat × Nat × List fRl
def f_DY (M : fMem) (y : fYd) : Prop := M.1 28 0 = nI y.1 ∧ M.1 28 1 = nI y.2.1 ∧ f_DR M y.2.2
def f_keep (w v : Nat) (C : List Nat) (y : fYd) : fYd := if w = 104 ∨ w = 112 then (y.1, y.2.1, y.2.2 ++ [(decide (w = 112), v, C)]) else if w = 108 then (max 2 (min 17 v), y.2.1, y.2.2) else (y.1, max 1 (min 3 v), y.2.2)
theorem f_DR.ex {M M' : fMem} {rs : List fRl} (h : f_DR M rs) (h28 : M'.1 28 2 = M.1 28 2) (h29 : M'.1 29 = M.1 29) (h30 : M'.1 30 = M.1 30) (h31 : M'.1 31 = M.1 31) (h32 : ∀ i, i < f_beg rs rs.length → M'.1 32 i = M.1 32 i) : f_DR M' rs := by
  obtain ⟨d1, d2, d3⟩ := h
  refine ⟨by rw [h28]; exact d1, d2, fun r q hq => ?_⟩
  obtain ⟨q1, q2, q3, q4⟩ := d3 r q hq
  have hr := (List.getElem?_eq_some_iff.mp hq).1
  have hb := f_beg_succ rs r q hq
  have hm := f_beg_mono rs rs.length (r + 1) (by omega)
  refine ⟨by rw [h29]; exact q1, by rw [h30]; exact q2, by rw [h31]; exact q3, fun j t hj => ?_⟩
  have hjl := (List.getElem?_eq_some_iff.mp hj).1
  rw [h32 _ (by omega)]
  exact q4 j t hj
def S_kc : fSp := fun G As M R => match As with
  | [.ref 27] => ∃ (w v : Nat) (C : List Nat) (y : fYd), G = f_GX ∧ M.1 27 3 = nI w ∧ w < 1000 ∧ M.1 27 4 = nI v ∧ v < 100 ∧ f_DY M y ∧ y.2.2.length < 10 ∧ f_CD M (f_beg y.2.2 y.2.2.length) C ∧ ((w = 104 ∨ w = 112) ∨ C = []) ∧ (∀ M', f_ex [28, 29, 30, 31] [] M M' → f_DY M' (f_keep w v C y) → f_CD M' (f_beg (f_keep w v C y).2.2 (f_keep w v C y).2.2.length) [] → R G none M')
  | _ => False
theorem f_mnmx {lo hi v : Nat} (h1 : lo < 100) (h2 : hi < 100) (h3 : v < 100) : (if nI lo < (if nI v < nI hi then nI v else nI hi) then (if nI v < nI hi then nI v else nI hi) else nI lo) = nI (max lo (min hi v)) := by
  have e1 : (if nI v < nI hi then nI v else nI hi) = nI (min hi v) := by
    by_cases h : v < hi
    · rw [if_pos (nI_lt h (by omega)), Nat.min_eq_right (by omega)]
    · rw [if_neg (fun z => h ((nI_ltI (by omega) (by omega)).mp z)), Nat.min_eq_left (by omega)]
  rw [e1]
  by_cases h : lo < min hi v
  · rw [if_pos (nI_lt h (by omega)), Nat.max_eq_right (by omega)]
  · rw [if_neg (fun z => h ((nI_ltI (by omega) (by omega)).mp z)), Nat.max_eq_left (by omega)]
set_option maxRecDepth 20000 in
theorem m_kc : f_Meets 1 (kX5_keepClause S_hr S_ar S_min S_max) S_kc := by
  intro G As M R hsp X hX hW
  match As, hsp with
  | [.ref 27], ⟨w, v, C, y, hG, h3, hw, h4, hv, ⟨y1, y2, y3⟩, hl, hC, hwc, hsp⟩ =>
    subst hG
    have key : ∀ c, c < 1000 → (M.1 27 3 = nI c ↔ w = c) := fun c hc => by rw [h3]; exact nI_eq (by omega) (by omega)
    refine f_run_ok (stop := fun _ => false) hX 30 _ _ _ _ _ ?_
    refine ⟨w, rfl, h3, hw, ?_⟩
    refine And.intro (fun h => ?_) (fun h => ?_)
    · have h : ¬ (w = 104 ∨ w = 112) := of_decide_eq_false (f_b0.mp h)
      have hC0 : C = [] := hwc.elim (fun z => absurd z h) id
      subst hC0
      refine And.intro (fun h5 => ?_) (fun h5 => ?_)
      · have h5 := (key 108 (by omega)).mp h5
        have hk : f_keep w v [] y = (max 2 (min 17 v), y.2.1, y.2.2) := by unfold f_keep; rw [if_neg h, if_pos h5]
        rw [hk] at hsp
        refine hsp _ (f_ex.rf.up (by decide)) ⟨?_, y2, y3.ex rfl rfl rfl rfl (fun i hi => rfl)⟩ hC
        show (if (2 : Int32) < (if M.1 27 4 < 17 then M.1 27 4 else 17) then (if M.1 27 4 < 17 then M.1 27 4 else 17) else 2) = _
        rw [h4]
        exact f_mnmx (lo := 2) (hi := 17) (by omega) (by omega) hv
      · have h5 : ¬ w = 108 := fun z => h5 ((key 108 (by omega)).mpr z)
        have hk : f_keep w v [] y = (y.1, max 1 (min 3 v), y.2.2) := by unfold f_keep; rw [if_neg h, if_neg h5]
        rw [hk] at hsp
        refine hsp _ (f_ex.rf.up (by decide)) ⟨y1, ?_, y3.ex rfl rfl rfl rfl (fun i hi => rfl)⟩ hC
        show (if (1 : Int32) < (if M.1 27 4 < 3 then M.1 27 4 else 3) then (if M.1 27 4 < 3 then M.1 27 4 else 3) else 1) = _
        rw [h4]
        exact f_mnmx (lo := 1) (hi := 3) (by omega) (by omega) hv
    · have h : (w = 104 ∨ w = 112) := of_decide_eq_true (f_b_nt h)
      have hk : f_keep w v C y = (y.1, y.2.1, y.2.2 ++ [(decide (w = 112), v, C)]) := by unfold f_keep; rw [if_pos h]
      rw [hk] at hsp
      have go : ∀ z : Int32, z = f_b (decide (w = 112)) → S_ar f_GX [.ref 28, .int z, .int (M.1 27 4)] M (fun G' v M' => R f_GX none M') := by
        intro z hz
        refine ⟨y.2.2, C, decide (w = 112), v, rfl, hz, h4, y3, hl, hC, fun M' he h28 hR hD => ?_⟩
        exact hsp M' he ⟨by rw [h28 0 (by decide)]; exact y1, by rw [h28 1 (by decide)]; exact y2, hR⟩ hD
      refine And.intro (fun h5 => ?_) (fun h5 => ?_)
      · have h5 := (key 112 (by omega)).mp h5
        obtain ⟨a, b, c, d, e1, e2, e3, e4, e5, e6, e7⟩ := go 1 (by rw [decide_eq_true h5]; rfl)
        exact ⟨a, b, c, d, e1, e2, e3, e4, e5, e6, e7⟩
      · have h5 : ¬ w = 112 := fun z => h5 ((key 112 (by omega)).mpr z)
        obtain ⟨a, b, c, d, e1, e2, e3, e4, e5, e6, e7⟩ := go 0 (by rw [decide_eq_false h5]; rfl)
        exact ⟨a, b, c, d, e1, e2, e3, e4, e5, e6, e7⟩
/-- one clause: whether it can be read, where the reading ends, the yard then -/
def f_cl (T : Nat → Nat) (n p : Nat) (y : fYd) : Bool × Nat × fYd :=
  if (f_head T n p).1 = true then (if (f_head T n p).2.2.1 = 104 ∨ (f_head T n p).2.2.1 = 112 then (if f_is T n (f_head T n p).2.1 32 = true then (if (f_pe T n (f_pf T n 5) ((f_head T n p).2.1 + 1) []).1 = true then (true, (f_pe T n (f_pf T n 5) ((f_head T n p).2.1 + 1) []).2.1, f_keep (f_head T n p).2.2.1 (f_head T n p).2.2.2 (f_pe T n (f_pf T n 5) ((f_head T n p).2.1 + 1) []).2.2 y) else (false, (f_pe T n (f_pf T n 5) ((f_head T n p).2.1 + 1) []).2.1, y)) else (false, (f_head T n p).2.1, y)) else (true, (f_head T n p).2.1, f_keep (f_head T n p).2.2.1 (f_head T n p).2.2.2 [] y)) else (false, (f_head T n p).2.1, y)
def f_cls (T : Nat → Nat) (n : Nat) : Nat → Nat → fYd → Bool × Nat × fYd
  | 0, p, y => (false, p, y)
  | k + 1, p, y => if (f_cl T n p y).1 = true then (if n ≤ (f_cl T n p y).2.1 then (true, (f_cl T n p y).2) else if k = 0 then (false, (f_cl T n p y).2) else if f_is T n (f_cl T n p y).2.1 59 = true then f_cls T n k ((f_cl T n p y).2.1 + 1) (f_cl T n p y).2.2 else (false, (f_cl T n p y).2)) else (false, (f_cl T n p y).2)
def f_yrd (T : Nat → Nat) (n : Nat) : Bool × Nat × fYd := f_cls T n 10 0 (12, 2, [])
theorem f_wrd_p {T : Nat → Nat} {n : Nat} : ∀ (w : List Nat) (p : Nat), p ≤ n → p ≤ (f_wrd T n w p).2 ∧ (f_wrd T n w p).2 ≤ n := by
  intro w
  induction w with
  | nil => intro p h; exact ⟨Nat.le_refl _, h⟩
  | cons c w ih =>
    intro p h
    unfold f_wrd
    split
    · rename_i hc
      have := f_is_lt hc
      have := ih (p + 1) (by omega)
      omega
    · exact ⟨Nat.le_refl _, h⟩
theorem f_hdw_p {T : Nat → Nat} {n c : Nat} {w : List Nat} {p : Nat} (h : p ≤ n) : p ≤ (f_hdw T n c w p).2.1 ∧ (f_hdw T n c w p).2.1 ≤ n ∧ (f_hdw T n c w p).2.2.2 < 100 ∧ (f_hdw T n c w p).2.2.1 = c := by
  have h1 := f_wrd_p (T := T) w p h
  unfold f_hdw
  split
  · cases hn : f_num T n (f_wrd T n w p).2 with
    | none => exact ⟨h1.1, h1.2, by show 0 < 100; omega, rfl⟩
    | some r =>
      obtain ⟨v, q⟩ := r
      have := f_num_ok hn
      exact ⟨by show p ≤ q; omega, by show q ≤ n; omega, by show v < 100; omega, rfl⟩
  · exact ⟨h1.1, h1.2, by show 0 < 100; omega, rfl⟩
theorem f_head_p {T : Nat → Nat} {n p : Nat} (h : p ≤ n) : p ≤ (f_head T n p).2.1 ∧ (f_head T n p).2.1 ≤ n ∧ (f_head T n p).2.2.2 < 100 ∧ (f_head T n p).2.2.1 < 1000 := by
  unfold f_head
  split
  · have := f_hdw_p (T := T) (c := 108) (w := [108, 111, 110, 103, 32]) h
    omega
  · split
    · have := f_hdw_p (T := T) (c := 99) (w := [99, 117, 116, 115, 32]) h
      omega
    · split
      · have := f_hdw_p (T := T) (c := 104) (w := [104, 97, 114, 100, 32]) h
        omega
      · split
        · have := f_hdw_p (T := T) (c := 112) (w := [112, 114, 105, 99, 101, 32]) h
          omega
        · exact ⟨Nat.le_refl _, h, by show 0 < 100; omega, by show 0 < 1000; omega⟩
theorem f_keep_len (w v : Nat) (C : List Nat) (y : fYd) : (f_keep w v C y).2.2.length ≤ y.2.2.length + 1 ∧ f_beg (f_keep w v C y).2.2 (f_keep w v C y).2.2.length ≤ f_beg y.2.2 y.2.2.length + C.length := by
  unfold f_keep
  split
  · refine ⟨?_, ?_⟩
    · show (y.2.2 ++ [_]).length ≤ _
      rw [List.length_append]; exact Nat.le_refl _
    · show f_beg (y.2.2 ++ [_]) (y.2.2 ++ [_]).length ≤ _
      rw [List.length_append]
      show f_beg (y.2.2 ++ [_]) (y.2.2.length + 1) ≤ _
      rw [f_beg_last]
      exact Nat.le_refl _
  · split
    · exact ⟨Nat.le_succ _, Nat.le_add_right _ _⟩
    · exact ⟨Nat.le_succ _, Nat.le_add_right _ _⟩
theorem f_cl_p {T : Nat → Nat} {n p : Nat} {y : fYd} (h : p ≤ n) : p ≤ (f_cl T n p y).2.1 ∧ (f_cl T n p y).2.1 ≤ n ∧ (f_cl T n p y).2.2.2.2.length ≤ y.2.2.length + 1 ∧ f_beg (f_cl T n p y).2.2.2.2 (f_cl T n p y).2.2.2.2.length + p ≤ f_beg y.2.2 y.2.2.length + (f_cl T n p y).2.1 := by
  obtain ⟨a1, a2, a3, a4⟩ := f_head_p (T := T) h
  unfold f_cl
  generalize f_head T n p = hd at *
  split
  · split
    · split
      · rename_i h32
        have := f_is_lt h32
        obtain ⟨g1, g2, g3⟩ := f_pe_good T n 5 (hd.2.1 + 1) [] (by omega)
        generalize f_pe T n (f_pf T n 5) (hd.2.1 + 1) [] = r at *
        split
        · obtain ⟨k1, k2⟩ := f_keep_len hd.2.2.1 hd.2.2.2 r.2.2 y
          have g3 : r.2.2.length + (hd.2.1 + 1) ≤ 0 + r.2.1 := g3
          exact ⟨by show p ≤ r.2.1; omega, g2, k1, by show f_beg (f_keep hd.2.2.1 hd.2.2.2 r.2.2 y).2.2 (f_keep hd.2.2.1 hd.2.2.2 r.2.2 y).2.2.length + p ≤ f_beg y.2.2 y.2.2.length + r.2.1; omega⟩
        · exact ⟨by show p ≤ r.2.1; omega, g2, Nat.le_succ _, by show f_beg y.2.2 y.2.2.length + p ≤ f_beg y.2.2 y.2.2.length + r.2.1; omega⟩
      · exact ⟨a1, a2, Nat.le_succ _, by show f_beg y.2.2 y.2.2.length + p ≤ f_beg y.2.2 y.2.2.length + hd.2.1; omega⟩
    · obtain ⟨k1, k2⟩ := f_keep_len hd.2.2.1 hd.2.2.2 [] y
      have k2 : _ ≤ f_beg y.2.2 y.2.2.length + 0 := k2
      exact ⟨a1, a2, k1, by show f_beg (f_keep hd.2.2.1 hd.2.2.2 [] y).2.2 (f_keep hd.2.2.1 hd.2.2.2 [] y).2.2.length + p ≤ f_beg y.2.2 y.2.2.length + hd.2.1; omega⟩
  · exact ⟨a1, a2, Nat.le_succ _, by show f_beg y.2.2 y.2.2.length + p ≤ f_beg y.2.2 y.2.2.length + hd.2.1; omega⟩
def S_clr : fSp := f_self 1 kX10_clear 20
def S_ft : fSp := fun G As M R => match As with
  | [.ref 27] => ∃ (T : Nat → Nat) (n : Nat), G = f_GX ∧ M.1 1 8 = nI n ∧ n ≤ 100 ∧ (∀ i, i < n → M.1 10 i = nI (T i) ∧ T i < 128) ∧ (∀ M', f_ex [27, 28, 29, 30, 31, 32] [] M M' → ((f_yrd T n).1 = true → f_DY M' (f_yrd T n).2.2) → R G (some (.int (if (f_yrd T n).1 = true then -1 else nI (f_yrd T n).2.1))) M')
  | _ => False
set_option maxRecDepth 20000 in
theorem m_ft : f_Meets 3 (kX5_faultInTape S_clr S_rh S_hr S_tks (S_rE 5) S_kc) S_ft := by
  intro G As M R hsp X hX hW
  match As, hsp with
  | [.ref 27], ⟨T, n, hG, h8, hn, hT, hsp⟩ =>
    subst hG
    have fin : ∀ (M' : fMem) (p : Nat), f_ex [27, 28, 29, 30, 31, 32] [] M M' → (f_yrd T n).1 = false → (f_yrd T n).2.1 = p → M'.1 27 2 = nI p → R f_GX (some (.int (M'.1 27 2))) M' := by
      intro M' p he h1 h2 h3
      have y := hsp M' he (fun z => by rw [h1] at z; exact absurd z Bool.false_ne_true)
      rw [if_neg (by rw [h1]; decide), h2] at y
      rw [h3]
      exact y
    have loop : ∀ (k i p : Nat) (y : fYd) (M' : fMem) (u : Option Value), i + k = 10 → f_ex [27, 28, 29, 30, 31, 32] [] M M' → f_RD M' T n p → f_DY M' y → f_CD M' (f_beg y.2.2 y.2.2.length) [] → y.2.2.length ≤ i → f_beg y.2.2 y.2.2.length ≤ p → f_cls T n k p y = f_yrd T n → X f_GX 14 [some (.ref 27), some (.int (nI i)), u] [] M' := by
      intro k
      induction k with
      | zero =>
        intro i p y M' u hi he hD hY hC hyl hbp hr
        have hi : i = 10 := by omega
        subst hi
        have hr : (false, p, y) = f_yrd T n := hr
        refine f_run_ok (stop := fun q => false) hX 20 _ _ _ _ _ ?_
        refine And.intro (fun h => ?_) (fun h => absurd (show (10 : Int32) ≤ nI 10 by decide) h)
        exact fin M' p he (by rw [← hr]) (by rw [← hr]) hD.1
      | succ k ih =>
        intro i p y M' u hi he hD hY hC hyl hbp hr
        have hr : (if (f_cl T n p y).1 = true then (if n ≤ (f_cl T n p y).2.1 then (true, (f_cl T n p y).2) else if k = 0 then (false, (f_cl T n p y).2) else if f_is T n (f_cl T n p y).2.1 59 = true then f_cls T n k ((f_cl T n p y).2.1 + 1) (f_cl T n p y).2.2 else (false, (f_cl T n p y).2)) else (false, (f_cl T n p y).2)) = f_yrd T n := hr
        obtain ⟨c1, c2, c3, c4⟩ := f_cl_p (T := T) (y := y) hD.2.1
        obtain ⟨a1, a2, a3, a4⟩ := f_head_p (T := T) hD.2.1
        -- behind the reading: it failed
        have bad : ∀ (M2 : fMem) (q : Nat) (u : Option Value), (f_cl T n p y).1 = false → (f_cl T n p y).2.1 = q → f_ex [27, 28, 29, 30, 31, 32] [] M M2 → M2.1 27 2 = nI q → X f_GX 55 [some (.ref 27), some (.int (nI i)), u] [] M2 := by
          intro M2 q u hb hq he2 h2
          rw [if_neg (by rw [hb]; decide)] at hr
          refine f_run_ok (stop := fun q => false) hX 20 _ _ _ _ _ ?_
          refine And.intro (fun h => ?_) (fun h => absurd rfl h)
          exact fin M2 q he2 (by rw [← hr]) (by rw [← hr]; exact hq) h2
        -- it went well
        have good : ∀ (M2 : fMem) (q w v : Nat) (C : List Nat) (u : Option Value), f_cl T n p y = (true, q, f_keep w v C y) → f_ex [27, 28, 29, 30, 31, 32] [] M M2 → f_RD M2 T n q → f_DY M2 y → M2.1 27 3 = nI w → w < 1000 → M2.1 27 4 = nI v → v < 100 → f_CD M2 (f_beg y.2.2 y.2.2.length) C → ((w = 104 ∨ w = 112) ∨ C = []) → X f_GX 51 [some (.ref 27), some (.int (nI i)), u] [] M2 := by
          intro M2 q w v C u hcl he2 hD2 hY2 h3 hw h4 hv hC2 hwc
          rw [hcl] at hr c1 c2 c3 c4
          change (if true = true then (if n ≤ q then (true, q, f_keep w v C y) else if k = 0 then (false, q, f_keep w v C y) else if f_is T n q 59 = true then f_cls T n k (q + 1) (f_keep w v C y) else (false, q, f_keep w v C y)) else (false, q, f_keep w v C y)) = f_yrd T n at hr
          rw [if_pos rfl] at hr
          have hqn : q ≤ n := hD2.2.1
          refine f_run_ok (stop := fun q => Nat.beq q 14) hX 30 _ _ _ _ _ ?_
          refine And.intro (fun h => absurd h (by decide)) (fun h => ?_)
          refine ⟨w, v, C, y, rfl, h3, hw, h4, hv, hY2, by omega, hC2, hwc, fun M3 he3 hY3 hC3 => ?_⟩
          have hD3 : f_RD M3 T n q := by
            obtain ⟨d1, d2, d3, d4, d5⟩ := hD2
            exact ⟨by rw [he3.1 27 (by decide)]; exact d1, d2, by rw [he3.1 1 (by decide)]; exact d3, d4, fun j hj => by rw [he3.1 10 (by decide)]; exact d5 j hj⟩
          have he4 : f_ex [27, 28, 29, 30, 31, 32] [] M M3 := he2.tr (he3.mono (by decide) (by simp))
          refine And.intro (fun h => ?_) (fun h => ?_)
          · have h : M3.1 27 2 < M3.1 1 8 := h
            rw [hD3.1, hD3.2.2.1] at h
            have h := (nI_ltI (by omega) (by omega)).mp h
            rw [if_neg (by omega)] at hr
            refine And.intro (fun h5 => ?_) (fun h5 => ?_)
            · have h5 : i = 9 := (nI_eq (b := 9) (by omega) (by omega)).mp h5
              rw [if_pos (by omega)] at hr
              exact fin M3 q he4 (by rw [← hr]) (by rw [← hr]) hD3.1
            · have h5 : ¬ i = 9 := fun z => h5 (by rw [z]; rfl)
              rw [if_neg (by omega)] at hr
              refine ⟨T, n, q, 59, rfl, rfl, by omega, hD3, fun h6 => ?_, fun h6 => ?_⟩
              · rw [if_pos h6] at hr
                refine And.intro (fun z => absurd z (by decide)) (fun _ => ?_)
                have x := ih (i + 1) (q + 1) (f_keep w v C y) (f_up M3.1 27 2 (nI (q + 1)), M3.2) (some (.int 1)) (by omega) (he4.up (by decide)) (hD3.up (by omega)) hY3 hC3 (by have := c3; simp only at this; omega) (by have := c4; simp only at this; omega) hr
                rw [nI_succ i] at x
                exact x
              · rw [if_neg (by rw [h6]; decide)] at hr
                refine And.intro (fun z => ?_) (fun z => absurd rfl z)
                exact fin M3 q he4 (by rw [← hr]) (by rw [← hr]) hD3.1
          · have h : ¬ M3.1 27 2 < M3.1 1 8 := h
            rw [hD3.1, hD3.2.2.1] at h
            have h : ¬ q < n := fun z => h (nI_lt z (by omega))
            rw [if_pos (by omega)] at hr
            have x := hsp M3 he4 (fun _ => by rw [← hr]; exact hY3)
            rw [if_pos (by rw [← hr])] at x
            exact x
        refine f_run_ok (stop := fun q => Nat.beq q 51 || Nat.beq q 55) hX 20 _ _ _ _ _ ?_
        refine And.intro (fun h => absurd ((nI_leI (a := 10) (by omega) (by omega)).mp h) (by omega)) (fun h => ?_)
        refine ⟨T, n, p, rfl, hD, fun M2 he2 hD2 hw2 => ?_⟩
        have he3 : f_ex [27, 28, 29, 30, 31, 32] [] M M2 := he.tr (he2.mono (by decide) (by simp))
        have hY2 : f_DY M2 y := by
          obtain ⟨y1, y2, y3⟩ := hY
          exact ⟨by rw [he2.1 28 (by decide)]; exact y1, by rw [he2.1 28 (by decide)]; exact y2, y3.ex (by rw [he2.1 28 (by decide)]) (he2.1 29 (by decide)) (he2.1 30 (by decide)) (he2.1 31 (by decide)) (fun j hj => by rw [he2.1 32 (by decide)])⟩
        have hC2 : f_CD M2 (f_beg y.2.2 y.2.2.length) [] := ⟨by rw [he2.1 28 (by decide)]; exact hC.1, fun j t hj => by simp at hj⟩
        have hcl : f_cl T n p y = (if (f_head T n p).1 = true then (if (f_head T n p).2.2.1 = 104 ∨ (f_head T n p).2.2.1 = 112 then (if f_is T n (f_head T n p).2.1 32 = true then (if (f_pe T n (f_pf T n 5) ((f_head T n p).2.1 + 1) []).1 = true then (true, (f_pe T n (f_pf T n 5) ((f_head T n p).2.1 + 1) []).2.1, f_keep (f_head T n p).2.2.1 (f_head T n p).2.2.2 (f_pe T n (f_pf T n 5) ((f_head T n p).2.1 + 1) []).2.2 y) else (false, (f_pe T n (f_pf T n 5) ((f_head T n p).2.1 + 1) []).2.1, y)) else (false, (f_head T n p).2.1, y)) else (true, (f_head T n p).2.1, f_keep (f_head T n p).2.2.1 (f_head T n p).2.2.2 [] y)) else (false, (f_head T n p).2.1, y)) := rfl
        generalize f_head T n p = hd at *
        refine And.intro (fun h2 => ?_) (fun h2 => ?_)
        · have h2 := f_b0.mp h2
          rw [if_neg (by rw [h2]; decide)] at hcl
          exact bad M2 hd.2.1 _ (by rw [hcl]) (by rw [hcl]) he3 hD2.1
        · have h2 := f_b_nt h2
          obtain ⟨w3, w4⟩ := hw2 h2
          rw [if_pos h2] at hcl
          refine ⟨hd.2.2.1, rfl, w3, a4, ?_⟩
          refine And.intro (fun h3 => ?_) (fun h3 => ?_)
          · have h3 : ¬ (hd.2.2.1 = 104 ∨ hd.2.2.1 = 112) := of_decide_eq_false (f_b0.mp h3)
            rw [if_neg h3] at hcl
            exact good M2 hd.2.1 hd.2.2.1 hd.2.2.2 [] _ hcl he3 hD2 hY2 w3 a4 w4 a3 hC2 (Or.inr rfl)
          · have h3 : (hd.2.2.1 = 104 ∨ hd.2.2.1 = 112) := of_decide_eq_true (f_b_nt h3)
            rw [if_pos h3] at hcl
            refine ⟨T, n, hd.2.1, 32, rfl, rfl, by omega, hD2, fun h4 => ?_, fun h4 => ?_⟩
            · rw [if_pos h4] at hcl
              have hlt := f_is_lt h4
              obtain ⟨g1, g2, g3⟩ := f_pe_good T n 5 (hd.2.1 + 1) [] (by omega)
              refine And.intro (fun z => absurd z (by decide)) (fun _ => ?_)
              refine ⟨T, n, hd.2.1 + 1, f_beg y.2.2 y.2.2.length, [], rfl, by decide, by omega, hD2.up (by omega), hC2.sp _, by show f_beg y.2.2 y.2.2.length + 0 ≤ _; omega, fun M4 p4 d4 cd4 b4 => ?_⟩
              have he5 : f_ex [27, 28, 29, 30, 31, 32] [] M M4 := (he3.up (by decide)).tr (p4.1.mono (by decide) (by simp))
              change f_RD M4 T n (f_pe T n (f_pf T n 5) (hd.2.1 + 1) []).2.1 at d4
              change f_CD M4 _ (f_pe T n (f_pf T n 5) (hd.2.1 + 1) []).2.2 at cd4
              have hY4 : f_DY M4 y := by
                obtain ⟨y1, y2, y3⟩ := hY2
                exact ⟨by rw [p4.2.2.2 0 (by decide)]; exact y1, by rw [p4.2.2.2 1 (by decide)]; exact y2, y3.ex (p4.2.2.2 2 (by decide)) (p4.1.1 29 (by decide)) (p4.1.1 30 (by decide)) (p4.1.1 31 (by decide)) (fun j hj => b4 j hj)⟩
              have w34 : M4.1 27 3 = nI hd.2.2.1 := by rw [p4.2.1]; exact w3
              have w44 : M4.1 27 4 = nI hd.2.2.2 := by rw [p4.2.2.1]; exact w4
              refine And.intro (fun h5 => ?_) (fun h5 => ?_)
              · have h5 : (f_pe T n (f_pf T n 5) (hd.2.1 + 1) []).1 = false := f_b0.mp h5
                rw [if_neg (by rw [h5]; decide)] at hcl
                exact bad M4 _ _ (by rw [hcl]) (by rw [hcl]) he5 d4.1
              · have h5 : (f_pe T n (f_pf T n 5) (hd.2.1 + 1) []).1 = true := f_b_nt h5
                rw [if_pos h5] at hcl
                exact good M4 _ hd.2.2.1 hd.2.2.2 _ _ hcl he5 d4 hY4 w34 a4 w44 a3 cd4 (Or.inl h3)
            · rw [if_neg (by rw [h4]; decide)] at hcl
              refine And.intro (fun _ => ?_) (fun z => absurd rfl z)
              exact bad M2 hd.2.1 _ (by rw [hcl]) (by rw [hcl]) he3 hD2.1
    refine f_run_ok (stop := fun q => Nat.beq q 14) hX 20 _ _ _ _ _ ?_
    refine loop 10 0 0 (12, 2, []) (f_up (f_up (f_up (f_up (f_up M.1 27 2 0) 28 0 12) 28 1 2) 28 2 0) 28 3 0, M.2) none rfl (((((f_ex.rf.up (by decide)).up (c := 28) (by decide)).up (c := 28) (by decide)).up (c := 28) (by decide)).up (c := 28) (by decide)) ⟨rfl, Nat.zero_le _, h8, hn, hT⟩ ⟨rfl, rfl, rfl, by show 0 ≤ 10; omega, fun r q hq => by simp at hq⟩ ⟨rfl, fun j t hj => by simp at hj⟩ (Nat.le_refl _) (Nat.le_refl _) rfl
