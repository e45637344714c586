/-! ===== the reference: a yard is read: one sign among some, a word ===== -/
def f_amg (T : Nat → Nat) (n p : Nat) : List Int32 → Nat → Option Nat
  | [], _ => none
  | c :: l, k => if f_sg T n p = c then some k else f_amg T n p l (k + 1)
theorem f_let_amg {T : Nat → Nat} {n p : Nat} (hT : ∀ i, i < n → T i < 128) : f_amg T n p (f_stx 4) 0 = f_let T n p := by
  have e : ∀ c, c < 1000 → (f_sg T n p = nI c) = (f_is T n p c = true) := fun c hc => propext (f_sg_eq hT hc)
  exact ite_congr (e 120 (by omega)) (fun _ => rfl) (fun _ => ite_congr (e 114 (by omega)) (fun _ => rfl) (fun _ => ite_congr (e 108 (by omega)) (fun _ => rfl) (fun _ => ite_congr (e 99 (by omega)) (fun _ => rfl) (fun _ => ite_congr (e 107 (by omega)) (fun _ => rfl) (fun _ => rfl)))))
theorem f_cm_amg {T : Nat → Nat} {n p : Nat} (hT : ∀ i, i < n → T i < 128) : f_amg T n p (f_stx 5) 0 = f_cm T n p := by
  have e : ∀ c, c < 1000 → (f_sg T n p = nI c) = (f_is T n p c = true) := fun c hc => propext (f_sg_eq hT hc)
  exact ite_congr (e 60 (by omega)) (fun _ => rfl) (fun _ => ite_congr (e 61 (by omega)) (fun _ => rfl) (fun _ => ite_congr (e 62 (by omega)) (fun _ => rfl) (fun _ => rfl)))
theorem f_drop1 {α : Type} (l : List α) (d : α) {k : Nat} (h : k < l.length) : l.drop k = l.getD k d :: l.drop (k + 1) := by
  rw [List.drop_eq_getElem_cons h, List.getD_eq_getElem?_getD, List.getElem?_eq_getElem h]
  rfl
def S_am : fSp := fun G As M R => match As with
  | [.ref 100, .ref r] => ∃ (T : Nat → Nat) (n p a : Nat) (w : Bool) (o i : Nat), G = f_GM ∧ r = 2000 + i ∧ (i = 4 ∨ i = 5) ∧ f_YS M T n p a w o ∧ (∀ k, f_amg T n p (f_stx i) 0 = some k → R G (some (.int (nI k))) (f_up M.1 100 5 (nI (p + 1)), M.2)) ∧ (f_amg T n p (f_stx i) 0 = none → R G (some (.int (-1))) M)
  | _ => False
set_option maxRecDepth 20000 in
theorem m_am : f_Meets 3 (kX12_among S_sln S_he S_cha) S_am := by
  intro G As M R hsp X hX hW
  match As, hsp with
  | [.ref 100, .ref r], ⟨T, n, p, a, w, o, i, hG, hr, hi, hY, y1, y2⟩ =>
    subst hG; subst hr
    have e5 : M.1 100 5 = nI p := hY.2.2.1
    have i6 : i < 6 := by omega
    have hlen := (f_stx_len i i6).1
    rcases hi with rfl | rfl
    · generalize hL : f_stx 4 = L at *
      have loop : ∀ (t k : Nat), k + t = L.length → f_amg T n p L 0 = f_amg T n p (L.drop k) k → X f_GM 2 [some (.ref 100), some (.ref 2004), some (.int (nI k))] [] M := by
        intro t
        induction t with
        | zero =>
          intro k hk he
          have he : f_amg T n p L 0 = none := by rw [he, List.drop_eq_nil_of_le (by omega)]; rfl
          refine f_run_ok (stop := fun q => false) hX 20 _ _ _ _ _ ?_
          refine ⟨4, rfl, i6, ?_⟩
          rw [hL]
          exact And.intro (fun _ => y2 he) (fun z => absurd (nI_le (by omega) (by omega)) z)
        | succ t ih =>
          intro k hk he
          rw [f_drop1 L 0 (by omega)] at he
          have he : f_amg T n p L 0 = if f_sg T n p = L.getD k 0 then some k else f_amg T n p (L.drop (k + 1)) (k + 1) := he
          refine f_run_ok (stop := fun q => Nat.beq q 2) hX 30 _ _ _ _ _ ?_
          refine ⟨4, rfl, i6, ?_⟩
          rw [hL]
          refine And.intro (fun z => absurd ((nI_leI (by omega) (by omega)).mp z) (by omega)) (fun _ => ?_)
          refine ⟨T, n, p, a, w, o, rfl, hY, ?_⟩
          refine ⟨4, k, rfl, i6, rfl, by rw [hL]; omega, ?_⟩
          rw [hL]
          refine And.intro (fun z => ?_) (fun z => ?_)
          · have q := y1 k (by rw [he, if_pos z])
            rw [nI_succ, ← e5] at q
            exact q
          · have q := ih (k + 1) (by omega) (by rw [he, if_neg z])
            rw [nI_succ] at q
            exact q
      refine f_run_ok (stop := fun q => Nat.beq q 2) hX 20 _ _ _ _ _ ?_
      exact loop L.length 0 (by omega) rfl
    · generalize hL : f_stx 5 = L at *
      have loop : ∀ (t k : Nat), k + t = L.length → f_amg T n p L 0 = f_amg T n p (L.drop k) k → X f_GM 2 [some (.ref 100), some (.ref 2005), some (.int (nI k))] [] M := by
        intro t
        induction t with
        | zero =>
          intro k hk he
          have he : f_amg T n p L 0 = none := by rw [he, List.drop_eq_nil_of_le (by omega)]; rfl
          refine f_run_ok (stop := fun q => false) hX 20 _ _ _ _ _ ?_
          refine ⟨5, rfl, i6, ?_⟩
          rw [hL]
          exact And.intro (fun _ => y2 he) (fun z => absurd (nI_le (by omega) (by omega)) z)
        | succ t ih =>
          intro k hk he
          rw [f_drop1 L 0 (by omega)] at he
          have he : f_amg T n p L 0 = if f_sg T n p = L.getD k 0 then some k else f_amg T n p (L.drop (k + 1)) (k + 1) := he
          refine f_run_ok (stop := fun q => Nat.beq q 2) hX 30 _ _ _ _ _ ?_
          refine ⟨5, rfl, i6, ?_⟩
          rw [hL]
          refine And.intro (fun z => absurd ((nI_leI (by omega) (by omega)).mp z) (by omega)) (fun _ => ?_)
          refine ⟨T, n, p, a, w, o, rfl, hY, ?_⟩
          refine ⟨5, k, rfl, i6, rfl, by rw [hL]; omega, ?_⟩
          rw [hL]
          refine And.intro (fun z => ?_) (fun z => ?_)
          · have q := y1 k (by rw [he, if_pos z])
            rw [nI_succ, ← e5] at q
            exact q
          · have q := ih (k + 1) (by omega) (by rw [he, if_neg z])
            rw [nI_succ] at q
            exact q
      refine f_run_ok (stop := fun q => Nat.beq q 2) hX 20 _ _ _ _ _ ?_
      exact loop L.length 0 (by omega) rfl
def f_swd : Nat → List Nat
  | 0 => [108, 111, 110, 103, 32]
  | 1 => [99, 117, 116, 115, 32]
  | 2 => [104, 97, 114, 100, 32]
  | _ => [112, 114, 105, 99, 101, 32]
theorem f_swd_stx : ∀ i, i < 4 → (f_stx i).length = (f_swd i).length ∧ (f_swd i).length ≤ 6 ∧ ∀ k, k < 6 → k < (f_swd i).length → (f_stx i).getD k 0 = nI ((f_swd i).getD k 0) ∧ (f_swd i).getD k 0 < 1000 := by decide +kernel
def S_spl : fSp := fun G As M R => match As with
  | [.ref 100, .ref r] => ∃ (T : Nat → Nat) (n p a o i : Nat), G = f_GM ∧ r = 2000 + i ∧ i < 4 ∧ f_YS M T n p a false o ∧ (∀ M', f_em [1005, 1007] M M' → f_YS M' T n (f_wrd T n (f_swd i) p).2 a (!(f_wrd T n (f_swd i) p).1) o → R G none M')
  | _ => False
set_option maxRecDepth 20000 in
theorem m_spl : f_Meets 3 (kX12_spells S_sln S_cha S_mst) S_spl := by
  intro G As M R hsp X hX hW
  match As, hsp with
  | [.ref 100, .ref r], ⟨T, n, p, a, o, i, hG, hr, hi, hY, hsp⟩ =>
    subst hG; subst hr
    have i6 : i < 6 := by omega
    obtain ⟨hl, h6, hb⟩ := f_swd_stx i hi
    have i4 : i = 0 ∨ i = 1 ∨ i = 2 ∨ i = 3 := by omega
    rcases i4 with rfl | rfl | rfl | rfl
    · generalize hL : f_stx 0 = L at *
      generalize hV : f_swd 0 = V at *
      have loop : ∀ (t k q : Nat) (w : Bool) (M1 : fMem), k + t = L.length → f_em [1005, 1007] M M1 → f_YS M1 T n q a w o → (w = false → f_wrd T n V p = f_wrd T n (V.drop k) q) → (w = true → f_wrd T n V p = (false, q)) → X f_GM 2 [some (.ref 100), some (.ref 2000), some (.int (nI k))] [] M1 := by
        intro t
        induction t with
        | zero =>
          intro k q w M1 hk he hY1 g1 g2
          have hres : f_wrd T n V p = (!w, q) := by
            cases w with
            | false => rw [g1 rfl, List.drop_eq_nil_of_le (by omega)]; rfl
            | true => exact g2 rfl
          rw [hres] at hsp
          refine f_run_ok (stop := fun q => false) hX 20 _ _ _ _ _ ?_
          refine ⟨0, rfl, i6, ?_⟩
          rw [hL]
          exact And.intro (fun _ => hsp M1 he (by show f_YS M1 T n q a (!(!w)) o; rw [Bool.not_not]; exact hY1)) (fun z => absurd (nI_le (by omega) (by omega)) z)
        | succ t ih =>
          intro k q w M1 hk he hY1 g1 g2
          obtain ⟨b1, b2⟩ := hb k (by omega) (by omega)
          refine f_run_ok (stop := fun q => Nat.beq q 2) hX 30 _ _ _ _ _ ?_
          refine ⟨0, rfl, i6, ?_⟩
          rw [hL]
          refine And.intro (fun z => absurd ((nI_leI (by omega) (by omega)).mp z) (by omega)) (fun _ => ?_)
          refine ⟨0, k, rfl, i6, rfl, by rw [hL]; omega, ?_⟩
          rw [hL]
          refine ⟨T, n, q, a, w, o, V.getD k 0, rfl, b1, b2, hY1, fun M2 he2 hY2 => ?_⟩
          have hd := f_drop1 V 0 (k := k) (by omega)
          have r := ih (k + 1) _ _ M2 (by omega) (he.tr he2) hY2 (fun hw => ?_) (fun hw => ?_)
          · rw [nI_succ] at r
            exact r
          · rw [Bool.or_eq_false_iff] at hw
            have hi : f_is T n q (V.getD k 0) = true := by simpa using hw.2
            rw [if_pos ⟨hw.1, hi⟩, g1 hw.1, hd]
            show (if f_is T n q (V.getD k 0) = true then f_wrd T n (V.drop (k + 1)) (q + 1) else (false, q)) = _
            rw [if_pos hi]
          · cases hq : w with
            | true =>
              rw [if_neg (fun z => by cases z.1)]
              exact g2 hq
            | false =>
              rw [hq] at hw
              have hi : ¬ f_is T n q (V.getD k 0) = true := by
                intro e; rw [e] at hw; cases hw
              rw [if_neg (fun z => hi z.2), g1 hq, hd]
              show (if f_is T n q (V.getD k 0) = true then f_wrd T n (V.drop (k + 1)) (q + 1) else (false, q)) = _
              rw [if_neg hi]
      refine f_run_ok (stop := fun q => Nat.beq q 2) hX 20 _ _ _ _ _ ?_
      exact loop L.length 0 p false M (by omega) f_em.rf hY (fun _ => rfl) (fun z => by cases z)
    · generalize hL : f_stx 1 = L at *
      generalize hV : f_swd 1 = V at *
      have loop : ∀ (t k q : Nat) (w : Bool) (M1 : fMem), k + t = L.length → f_em [1005, 1007] M M1 → f_YS M1 T n q a w o → (w = false → f_wrd T n V p = f_wrd T n (V.drop k) q) → (w = true → f_wrd T n V p = (false, q)) → X f_GM 2 [some (.ref 100), some (.ref 2001), some (.int (nI k))] [] M1 := by
        intro t
        induction t with
        | zero =>
          intro k q w M1 hk he hY1 g1 g2
          have hres : f_wrd T n V p = (!w, q) := by
            cases w with
            | false => rw [g1 rfl, List.drop_eq_nil_of_le (by omega)]; rfl
            | true => exact g2 rfl
          rw [hres] at hsp
          refine f_run_ok (stop := fun q => false) hX 20 _ _ _ _ _ ?_
          refine ⟨1, rfl, i6, ?_⟩
          rw [hL]
          exact And.intro (fun _ => hsp M1 he (by show f_YS M1 T n q a (!(!w)) o; rw [Bool.not_not]; exact hY1)) (fun z => absurd (nI_le (by omega) (by omega)) z)
        | succ t ih =>
          intro k q w M1 hk he hY1 g1 g2
          obtain ⟨b1, b2⟩ := hb k (by omega) (by omega)
          refine f_run_ok (stop := fun q => Nat.beq q 2) hX 30 _ _ _ _ _ ?_
          refine ⟨1, rfl, i6, ?_⟩
          rw [hL]
          refine And.intro (fun z => absurd ((nI_leI (by omega) (by omega)).mp z) (by omega)) (fun _ => ?_)
          refine ⟨1, k, rfl, i6, rfl, by rw [hL]; omega, ?_⟩
          rw [hL]
          refine ⟨T, n, q, a, w, o, V.getD k 0, rfl, b1, b2, hY1, fun M2 he2 hY2 => ?_⟩
          have hd := f_drop1 V 0 (k := k) (by omega)
          have r := ih (k + 1) _ _ M2 (by omega) (he.tr he2) hY2 (fun hw => ?_) (fun hw => ?_)
          · rw [nI_succ] at r
            exact r
          · rw [Bool.or_eq_false_iff] at hw
            have hi : f_is T n q (V.getD k 0) = true := by simpa using hw.2
            rw [if_pos ⟨hw.1, hi⟩, g1 hw.1, hd]
            show (if f_is T n q (V.getD k 0) = true then f_wrd T n (V.drop (k + 1)) (q + 1) else (false, q)) = _
            rw [if_pos hi]
          · cases hq : w with
            | true =>
              rw [if_neg (fun z => by cases z.1)]
              exact g2 hq
            | false =>
              rw [hq] at hw
              have hi : ¬ f_is T n q (V.getD k 0) = true := by
                intro e; rw [e] at hw; cases hw
              rw [if_neg (fun z => hi z.2), g1 hq, hd]
              show (if f_is T n q (V.getD k 0) = true then f_wrd T n (V.drop (k + 1)) (q + 1) else (false, q)) = _
              rw [if_neg hi]
      refine f_run_ok (stop := fun q => Nat.beq q 2) hX 20 _ _ _ _ _ ?_
      exact loop L.length 0 p false M (by omega) f_em.rf hY (fun _ => rfl) (fun z => by cases z)
    · generalize hL : f_stx 2 = L at *
      generalize hV : f_swd 2 = V at *
      have loop : ∀ (t k q : Nat) (w : Bool) (M1 : fMem), k + t = L.length → f_em [1005, 1007] M M1 → f_YS M1 T n q a w o → (w = false → f_wrd T n V p = f_wrd T n (V.drop k) q) → (w = true → f_wrd T n V p = (false, q)) → X f_GM 2 [some (.ref 100), some (.ref 2002), some (.int (nI k))] [] M1 := by
        intro t
        induction t with
        | zero =>
          intro k q w M1 hk he hY1 g1 g2
          have hres : f_wrd T n V p = (!w, q) := by
            cases w with
            | false => rw [g1 rfl, List.drop_eq_nil_of_le (by omega)]; rfl
            | true => exact g2 rfl
          rw [hres] at hsp
          refine f_run_ok (stop := fun q => false) hX 20 _ _ _ _ _ ?_
          refine ⟨2, rfl, i6, ?_⟩
          rw [hL]
          exact And.intro (fun _ => hsp M1 he (by show f_YS M1 T n q a (!(!w)) o; rw [Bool.not_not]; exact hY1)) (fun z => absurd (nI_le (by omega) (by omega)) z)
        | succ t ih =>
          intro k q w M1 hk he hY1 g1 g2
          obtain ⟨b1, b2⟩ := hb k (by omega) (by omega)
          refine f_run_ok (stop := fun q => Nat.beq q 2) hX 30 _ _ _ _ _ ?_
          refine ⟨2, rfl, i6, ?_⟩
          rw [hL]
          refine And.intro (fun z => absurd ((nI_leI (by omega) (by omega)).mp z) (by omega)) (fun _ => ?_)
          refine ⟨2, k, rfl, i6, rfl, by rw [hL]; omega, ?_⟩
          rw [hL]
          refine ⟨T, n, q, a, w, o, V.getD k 0, rfl, b1, b2, hY1, fun M2 he2 hY2 => ?_⟩
          have hd := f_drop1 V 0 (k := k) (by omega)
          have r := ih (k + 1) _ _ M2 (by omega) (he.tr he2) hY2 (fun hw => ?_) (fun hw => ?_)
          · rw [nI_succ] at r
            exact r
          · rw [Bool.or_eq_false_iff] at hw
            have hi : f_is T n q (V.getD k 0) = true := by simpa using hw.2
            rw [if_pos ⟨hw.1, hi⟩, g1 hw.1, hd]
            show (if f_is T n q (V.getD k 0) = true then f_wrd T n (V.drop (k + 1)) (q + 1) else (false, q)) = _
            rw [if_pos hi]
          · cases hq : w with
            | true =>
              rw [if_neg (fun z => by cases z.1)]
              exact g2 hq
            | false =>
              rw [hq] at hw
              have hi : ¬ f_is T n q (V.getD k 0) = true := by
                intro e; rw [e] at hw; cases hw
              rw [if_neg (fun z => hi z.2), g1 hq, hd]
              show (if f_is T n q (V.getD k 0) = true then f_wrd T n (V.drop (k + 1)) (q + 1) else (false, q)) = _
              rw [if_neg hi]
      refine f_run_ok (stop := fun q => Nat.beq q 2) hX 20 _ _ _ _ _ ?_
      exact loop L.length 0 p false M (by omega) f_em.rf hY (fun _ => rfl) (fun z => by cases z)
    · generalize hL : f_stx 3 = L at *
      generalize hV : f_swd 3 = V at *
      have loop : ∀ (t k q : Nat) (w : Bool) (M1 : fMem), k + t = L.length → f_em [1005, 1007] M M1 → f_YS M1 T n q a w o → (w = false → f_wrd T n V p = f_wrd T n (V.drop k) q) → (w = true → f_wrd T n V p = (false, q)) → X f_GM 2 [some (.ref 100), some (.ref 2003), some (.int (nI k))] [] M1 := by
        intro t
        induction t with
        | zero =>
          intro k q w M1 hk he hY1 g1 g2
          have hres : f_wrd T n V p = (!w, q) := by
            cases w with
            | false => rw [g1 rfl, List.drop_eq_nil_of_le (by omega)]; rfl
            | true => exact g2 rfl
          rw [hres] at hsp
          refine f_run_ok (stop := fun q => false) hX 20 _ _ _ _ _ ?_
          refine ⟨3, rfl, i6, ?_⟩
          rw [hL]
          exact And.intro (fun _ => hsp M1 he (by show f_YS M1 T n q a (!(!w)) o; rw [Bool.not_not]; exact hY1)) (fun z => absurd (nI_le (by omega) (by omega)) z)
        | succ t ih =>
          intro k q w M1 hk he hY1 g1 g2
          obtain ⟨b1, b2⟩ := hb k (by omega) (by omega)
          refine f_run_ok (stop := fun q => Nat.beq q 2) hX 30 _ _ _ _ _ ?_
          refine ⟨3, rfl, i6, ?_⟩
          rw [hL]
          refine And.intro (fun z => absurd ((nI_leI (by omega) (by omega)).mp z) (by omega)) (fun _ => ?_)
          refine ⟨3, k, rfl, i6, rfl, by rw [hL]; omega, ?_⟩
          rw [hL]
          refine ⟨T, n, q, a, w, o, V.getD k 0, rfl, b1, b2, hY1, fun M2 he2 hY2 => ?_⟩
          have hd := f_drop1 V 0 (k := k) (by omega)
          have r := ih (k + 1) _ _ M2 (by omega) (he.tr he2) hY2 (fun hw => ?_) (fun hw => ?_)
          · rw [nI_succ] at r
            exact r
          · rw [Bool.or_eq_false_iff] at hw
            have hi : f_is T n q (V.getD k 0) = true := by simpa using hw.2
            rw [if_pos ⟨hw.1, hi⟩, g1 hw.1, hd]
            show (if f_is T n q (V.getD k 0) = true then f_wrd T n (V.drop (k + 1)) (q + 1) else (false, q)) = _
            rw [if_pos hi]
          · cases hq : w with
            | true =>
              rw [if_neg (fun z => by cases z.1)]
              exact g2 hq
            | false =>
              rw [hq] at hw
              have hi : ¬ f_is T n q (V.getD k 0) = true := by
                intro e; rw [e] at hw; cases hw
              rw [if_neg (fun z => hi z.2), g1 hq, hd]
              show (if f_is T n q (V.getD k 0) = true then f_wrd T n (V.drop (k + 1)) (q + 1) else (false, q)) = _
              rw [if_neg hi]
      refine f_run_ok (stop := fun q => Nat.beq q 2) hX 20 _ _ _ _ _ ?_
      exact loop L.length 0 p false M (by omega) f_em.rf hY (fun _ => rfl) (fun z => by cases z)
