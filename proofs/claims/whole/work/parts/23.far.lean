def f_farN (f t fr : Nat) : Nat → Nat × Nat
  | 0 => (0, 0)
  | n + 1 => if fr.testBit (f + 1 + n) = true ∧ (f_farN f t fr n).1 ≤ min (f + 1 + n - f) (t - (f + 1 + n)) then (min (f + 1 + n - f) (t - (f + 1 + n)), if (f_farN f t fr n).1 < min (f + 1 + n - f) (t - (f + 1 + n)) then 2 ^ (f + 1 + n) else (f_farN f t fr n).2 ||| 2 ^ (f + 1 + n)) else f_farN f t fr n
def f_far (o : fOp) : Nat := (f_farN o.1 o.2.1 o.2.2 (o.2.1 - (o.1 + 1))).2
theorem f_farN_le (f t fr : Nat) : ∀ n, (f_farN f t fr n).1 ≤ t := by
  intro n
  induction n with
  | zero => exact Nat.zero_le _
  | succ n ih =>
    unfold f_farN
    split
    · show min _ _ ≤ t; omega
    · exact ih
def S_far : fSp := fun G As M R => match As with
  | [.ref 33, .int z] => ∃ (ops : List fOp) (i : Nat), G = f_GX ∧ f_OP M ops ∧ z = nI i ∧ i < ops.length ∧ R G (some (.int (nI (f_far (f_og ops i))))) M
  | _ => False
set_option maxRecDepth 20000 in
theorem m_far : f_Meets 8 (kX1_farthest S_at S_min S_hasBit) S_far := by
  intro G As M R hsp X hX hW
  match As, hsp with
  | [.ref 33, .int z], ⟨ops, i, hG, hO, hz, hi, hsp⟩ =>
    subst hG; subst hz
    have h17 := hO.2.1
    obtain ⟨a1, a2, a3, a4, a5, a6⟩ := hO.get hi
    unfold f_far at hsp
    have e1 : f_at (17, M.1 34) (nI i) = nI (f_og ops i).1 := by
      rw [f_at_in (t := (17, M.1 34)) (j := i) (by show i < 17; omega) (by show 17 < _; decide)]; exact a1
    have e2 : f_at (17, M.1 35) (nI i) = nI (f_og ops i).2.1 := by
      rw [f_at_in (t := (17, M.1 35)) (j := i) (by show i < 17; omega) (by show 17 < _; decide)]; exact a2
    have e3 : f_at (17, M.1 36) (nI i) = nI (f_og ops i).2.2 := by
      rw [f_at_in (t := (17, M.1 36)) (j := i) (by show i < 17; omega) (by show 17 < _; decide)]; exact a3
    generalize (f_og ops i).1 = f at *
    generalize (f_og ops i).2.1 = t at *
    generalize (f_og ops i).2.2 = fr at *
    have loop : ∀ n j, f + 1 + j + n = t → ∀ o, X f_GX 29 [some (.ref 33), some (.int (nI i)), some (.int (nI f)), some (.int (nI t)), some (.int (nI (f_farN f t fr j).1)), some (.int (nI (f_farN f t fr j).2)), some (.int (nI (f + 1 + j))), o] [] M := by
      intro n
      induction n with
      | zero =>
        intro j hj o
        refine f_run_ok (stop := fun q => Nat.beq q 29) hX 30 _ _ _ _ _ ?_
        refine And.intro (fun h => ?_) (fun h => ?_)
        · exact f_fin hsp (by rw [show t - (f + 1) = j by omega]) rfl
        · exact absurd (nI_le (by omega) (by omega)) h
      | succ n ih =>
        intro j hj o
        have hm := f_farN_le f t fr j
        have nx := ih (j + 1) (by omega)
        have eq : f_farN f t fr (j + 1) = if fr.testBit (f + 1 + j) = true ∧ (f_farN f t fr j).1 ≤ min (f + 1 + j - f) (t - (f + 1 + j)) then (min (f + 1 + j - f) (t - (f + 1 + j)), if (f_farN f t fr j).1 < min (f + 1 + j - f) (t - (f + 1 + j)) then 2 ^ (f + 1 + j) else (f_farN f t fr j).2 ||| 2 ^ (f + 1 + j)) else f_farN f t fr j := rfl
        have emin : (if nI t - nI (f + 1 + j) < nI (f + 1 + j) - nI f then nI t - nI (f + 1 + j) else nI (f + 1 + j) - nI f) = nI (min (f + 1 + j - f) (t - (f + 1 + j))) := by
          rw [pk_sub (by omega), pk_sub (by omega), n_min (by omega) (by omega)]
        rw [show f + 1 + (j + 1) = f + 1 + j + 1 by omega, nI_succ (f + 1 + j)] at nx
        refine f_run_ok (stop := fun q => Nat.beq q 46 || Nat.beq q 29) hX 30 _ _ _ _ _ ?_
        refine And.intro (fun h => ?_) (fun h => ?_)
        · have := (nI_leI (by omega) (by omega)).mp h
          omega
        · show X f_GX 46 [some (.ref 33), some (.int (nI i)), some (.int (nI f)), some (.int (nI t)), some (.int (nI (f_farN f t fr j).1)), some (.int (nI (f_farN f t fr j).2)), some (.int (nI (f + 1 + j))), o] [.int (if nI t - nI (f + 1 + j) < nI (f + 1 + j) - nI f then nI t - nI (f + 1 + j) else nI (f + 1 + j) - nI f)] M
          rw [emin]
          generalize hd : min (f + 1 + j - f) (t - (f + 1 + j)) = d at *
          refine f_run_ok (stop := fun q => Nat.beq q 61 || Nat.beq q 29) hX 30 _ _ _ _ _ ?_
          show X f_GX 61 [some (.ref 33), some (.int (nI i)), some (.int (nI f)), some (.int (nI t)), some (.int (nI (f_farN f t fr j).1)), some (.int (nI (f_farN f t fr j).2)), some (.int (nI (f + 1 + j))), some (.int (nI d))] [.int (f_b (f_bit (f_at (17, M.1 36) (nI i)) (nI (f + 1 + j))))] M
          rw [e3, n_bit (by omega) (by omega)]
          refine f_run_ok (stop := fun q => Nat.beq q 29) hX 30 _ _ _ _ _ ?_
          refine And.intro (fun h2 => ?_) (fun h2 => ?_)
          · have h2 := f_b0.mp h2
            rw [eq, if_neg (by rw [h2]; simp)] at nx
            exact nx _
          · have h2 : fr.testBit (f + 1 + j) = true := by
              cases hb : fr.testBit (f + 1 + j) with
              | true => rfl
              | false => exact absurd (f_b0.mpr hb) h2
            refine And.intro (fun h3 => ?_) (fun h3 => ?_)
            · have h3 := (nI_ltI (by omega) (by omega)).mp h3
              rw [eq, if_neg (by omega)] at nx
              exact nx _
            · have h3 : ¬ d < (f_farN f t fr j).1 := fun z => h3 ((nI_ltI (by omega) (by omega)).mpr z)
              rw [eq, if_pos ⟨h2, by omega⟩] at nx
              refine And.intro (fun h4 => ?_) (fun h4 => ?_)
              · have h4 := (nI_leI (by omega) (by omega)).mp h4
                rw [if_neg (by omega), ← n_orbit (by omega)] at nx
                exact nx _
              · have h4 : ¬ d ≤ (f_farN f t fr j).1 := fun z => h4 ((nI_leI (by omega) (by omega)).mpr z)
                rw [if_pos (by omega), ← n_shl (k := f + 1 + j) (by omega)] at nx
                exact nx _
    refine f_run_ok (stop := fun q => Nat.beq q 29) hX 40 _ _ _ _ _ ?_
    have := loop (t - (f + 1)) 0 (by omega) none
    rw [Nat.add_zero, nI_succ, ← e1, ← e2] at this
    exact this
/-- a breaker: its kind, number, row -/
def f_BK (M : fMem) (b kd v : Nat) (row : Nat → Nat) : Prop := b < 6 ∧ kd < 7 ∧ v < 10 ∧ M.1 2 b = nI kd ∧ M.1 3 b = nI v ∧ ∀ j, j < 4 → M.1 4 (b * 4 + j) = nI (row j) ∧ row j < 10
theorem f_BK.ex {M M' : fMem} {b kd v : Nat} {row : Nat → Nat} {cs ds : List Nat} (h : f_BK M b kd v row) (he : f_ex cs ds M M') (h2 : 2 ∉ cs) (h3 : 3 ∉ cs) (h4 : 4 ∉ cs) : f_BK M' b kd v row := by
  obtain ⟨a, b, c, d, e, f⟩ := h
  exact ⟨a, b, c, by rw [he.1 2 h2]; exact d, by rw [he.1 3 h3]; exact e, fun j hj => by rw [he.1 4 h4]; exact f j hj⟩
def f_cho (ops : List fOp) (kd v : Nat) (row : Nat → Nat) (c : Nat) : Option Nat :=
  if kd = 1 ∨ kd = 4 then some (f_lng ops (ops.length - 1)) else if kd = 2 then f_sht ops 0 ops.length else if kd = 5 then f_sht ops v ops.length else if kd = 6 then some (row (c % 4) % ops.length) else if kd = 3 then some 0 else none
def S_cho : fSp := fun G As M R => match As with
  | [.ref 33, .int z, .int zk, .int zc] => ∃ (ops : List fOp) (b kd v : Nat) (row : Nat → Nat) (c : Nat), G = f_GX ∧ f_OP M ops ∧ 0 < ops.length ∧ z = nI b ∧ zk = nI kd ∧ zc = nI c ∧ c < 100 ∧ f_BK M b kd v row ∧ R G (some (.int (f_opI (f_cho ops kd v row c)))) M
  | _ => False
set_option maxRecDepth 20000 in
theorem m_cho : f_Meets 4 (kX1_chosenPiece S_lng S_sht S_at) S_cho := by
  intro G As M R hsp X hX hW
  match As, hsp with
  | [.ref 33, .int z, .int zk, .int zc], ⟨ops, b, kd, v, row, c, hG, hO, h0, hz, hzk, hzc, hc, hB, hsp⟩ =>
    subst hG; subst hz; subst hzk; subst hzc
    have h17 := hO.2.1
    obtain ⟨b6, k7, v10, b1, b2, b3⟩ := hB
    have key : ∀ w : Nat, w < 7 → nI kd = nI w → kd = w := fun w hw h => (nI_eq (by omega) (by omega)).mp h
    have e2 : f_at (6, M.1 3) (nI b) = nI v := by
      rw [f_at_in (t := (6, M.1 3)) (j := b) (by show b < 6; omega) (by show 6 < _; decide)]; exact b2
    refine f_run_ok (stop := fun q => Nat.beq q 63 || Nat.beq q 67) hX 30 _ _ _ _ _ ?_
    refine And.intro (fun h => ?_) (fun h1 => ?_)
    · have h := key 1 (by omega) h
      refine ⟨ops, rfl, hO, h0, ?_⟩
      exact f_fin hsp (by unfold f_cho; rw [if_pos (Or.inl h)]; rfl) rfl
    have h1 : ¬ kd = 1 := fun z => h1 (by rw [z]; rfl)
    refine And.intro (fun h => ?_) (fun h2 => ?_)
    · have h := key 2 (by omega) h
      refine ⟨ops, 0, rfl, hO, rfl, by omega, ?_⟩
      exact f_fin hsp (by unfold f_cho; rw [if_neg (by omega), if_pos h]) rfl
    have h2 : ¬ kd = 2 := fun z => h2 (by rw [z]; rfl)
    refine And.intro (fun h => ?_) (fun h3 => ?_)
    · have h := key 3 (by omega) h
      exact f_fin hsp (by unfold f_cho; rw [if_neg (by omega), if_neg h2, if_neg (by omega), if_neg (by omega), if_pos h]; rfl) rfl
    have h3 : ¬ kd = 3 := fun z => h3 (by rw [z]; rfl)
    refine And.intro (fun h => ?_) (fun h4 => ?_)
    · have h := key 4 (by omega) h
      refine ⟨ops, rfl, hO, h0, ?_⟩
      exact f_fin hsp (by unfold f_cho; rw [if_pos (Or.inr h)]; rfl) rfl
    have h4 : ¬ kd = 4 := fun z => h4 (by rw [z]; rfl)
    refine And.intro (fun h => ?_) (fun h5 => ?_)
    · have h := key 5 (by omega) h
      show X f_GX 63 [some (.ref 33), some (.int (nI b)), some (.int (nI kd)), some (.int (nI c))] [.int (f_at (6, M.1 3) (nI b)), .ref 33] M
      rw [e2]
      refine f_run_ok (stop := fun q => false) hX 30 _ _ _ _ _ ?_
      refine ⟨ops, v, rfl, hO, rfl, by omega, ?_⟩
      exact f_fin hsp (by unfold f_cho; rw [if_neg (by omega), if_neg h2, if_pos h]) rfl
    have h5 : ¬ kd = 5 := fun z => h5 (by rw [z]; rfl)
    refine And.intro (fun h => ?_) (fun h6 => ?_)
    · have h := key 6 (by omega) h
      have hm : c % 4 < 4 := Nat.mod_lt _ (by decide)
      obtain ⟨r1, r2⟩ := b3 (c % 4) hm
      have er : f_at (24, M.1 4) (nI b * 4 + (nI c - nI c / 4 * 4)) = nI (row (c % 4)) := by
        have x1 : nI c - nI c / 4 * 4 = nI (c % 4) := pk_rem (d := 4) (by omega) (by omega) (by omega)
        have x2 : nI b * 4 = nI (b * 4) := pk_mul b 4
        rw [x1, x2, nI_add, f_at_in (t := (24, M.1 4)) (j := b * 4 + c % 4) (by show b * 4 + c % 4 < 24; omega) (by show 24 < _; decide)]
        exact r1
      refine f_run_ok (stop := fun q => Nat.beq q 91) hX 40 _ _ _ _ _ ?_
      refine And.intro (fun g => ?_) (fun g => ?_)
      · have g : M.1 33 2 ≤ 0 := g
        rw [hO.1] at g
        exact absurd g (nI_nle h0 (by omega))
      · refine And.intro (by decide) ?_
        show X f_GX 91 [some (.ref 33), some (.int (nI b)), some (.int (nI kd)), some (.int (nI c))] [.int (f_at (24, M.1 4) (nI b * 4 + (nI c - nI c / 4 * 4)))] M
        rw [er]
        refine f_run_ok (stop := fun q => false) hX 40 _ _ _ _ _ ?_
        refine And.intro ?_ ?_
        · show ¬ M.1 33 2 = 0
          rw [hO.1]
          exact nI_ne0 h0 (by omega)
        · refine f_fin hsp ?_ rfl
          show _ = some (Value.int (nI (row (c % 4)) - nI (row (c % 4)) / M.1 33 2 * M.1 33 2))
          rw [hO.1, pk_rem (by omega) h0 (by omega)]
          unfold f_cho
          rw [if_neg (by omega), if_neg h2, if_neg h5, if_pos h]
          rfl
    · have h6 : ¬ kd = 6 := fun z => h6 (by rw [z]; rfl)
      exact f_fin hsp (by unfold f_cho; rw [if_neg (by omega), if_neg h2, if_neg h5, if_neg h6, if_neg h3]; rfl) rfl
