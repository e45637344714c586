/-! ===== the reference: freeOfNumber, inmost ===== -/
def f_nmb (ops : List fOp) (m : Nat) : Nat := if ops.length = 0 then 0 else (f_og ops (m % ops.length)).2.2
def S_fnm : fSp := fun G As M R => match As with
  | [.ref 100, .int zm] => ∃ (rs : List fRl) (c kd m : Nat) (ps : List (Nat × Nat)), G = f_GM ∧ f_FW M rs c kd ps ∧ zm = nI m ∧ m < 100 ∧ R G (some (.int (nI (f_nmb (f_ops rs c kd ps) m)))) M
  | _ => False
theorem f_ops_le (rs : List fRl) (c kd : Nat) : ∀ ps : List (Nat × Nat), (f_ops rs c kd ps).length ≤ ps.length := by
  intro ps
  unfold f_ops
  exact List.length_filterMap_le _ _
set_option maxRecDepth 20000 in
theorem m_fnm : f_Meets 5 kX12_freeOfNumber S_fnm := by
  intro G As M R hsp X hX hW
  match As, hsp with
  | [.ref 100, .int zm], ⟨rs, c, kd, m, ps, hG, hF, hzm, hm, hsp⟩ =>
    subst hG; subst hzm
    have hl := hF.1.2.1
    have hol := f_ops_le rs c kd ps
    have second : ∀ (r dn : List (Nat × Nat)), dn ++ r = ps → ((f_ops rs c kd ps).length = 0 ∨ (f_ops rs c kd dn).length ≤ m % (f_ops rs c kd ps).length) → X f_GM 40 [some (.ref 100), some (.int (nI m)), some (.int (nI (f_ops rs c kd ps).length)), some (.int (nI (f_ops rs c kd dn).length)), some (.int (nI dn.length))] [] M := by
      intro r
      induction r with
      | nil =>
        intro dn hd hb
        rw [List.append_nil] at hd
        subst hd
        refine f_run_ok (stop := fun q => false) hX 30 _ _ _ _ _ ?_
        refine And.intro (fun _ => ?_) (fun e => ?_)
        · have h0 : (f_ops rs c kd dn).length = 0 := by
            rcases hb with h | h
            · exact h
            · rcases Nat.eq_zero_or_pos (f_ops rs c kd dn).length with e | e
              · exact e
              · have := Nat.mod_lt m e; omega
          unfold f_nmb at hsp
          rw [if_pos h0] at hsp
          exact hsp
        · have e : ¬ M.1 100 17 ≤ nI dn.length := e
          rw [hF.1.1] at e
          exact absurd (nI_le (Nat.le_refl _) (by omega)) e
      | cons q r ih =>
        intro dn hd hb
        obtain ⟨h1, h2, h3, h4⟩ := f_split hd
        obtain ⟨a0, a2, a3, a4, a5, a6, _, _⟩ := hF.at h1
        have es := f_ops_snoc rs c kd dn q
        refine f_run_ok (stop := fun q => Nat.beq q 40) hX 40 _ _ _ _ _ ?_
        refine And.intro (fun e => ?_) (fun _ => And.intro a2 ?_)
        · have e : M.1 100 17 ≤ nI dn.length := e
          rw [hF.1.1] at e
          exact absurd ((nI_leI (by omega) (by omega)).mp e) (by omega)
        refine And.intro (fun e => ?_) (fun e => ?_)
        · have e : M.1 107 (nI dn.length).toNatClampNeg = 0 := e
          rw [a3] at e
          have e := (nI_eq (b := 0) (by omega) (by omega)).mp e
          have e2 : f_ops rs c kd (dn ++ [q]) = f_ops rs c kd dn := by
            rw [es]; unfold f_opq; rw [if_pos e, List.append_nil]
          have q1 := ih (dn ++ [q]) h2 (by rw [e2]; exact hb)
          rw [e2, h3, nI_succ dn.length] at q1
          exact q1
        · have e : ¬ M.1 107 (nI dn.length).toNatClampNeg = 0 := e
          rw [a3] at e
          have hz : ¬ f_frb rs q.1 q.2 c kd = 0 := fun x => e (by rw [x]; rfl)
          have eo : f_ops rs c kd ps = f_ops rs c kd dn ++ (q.1, q.2, f_frb rs q.1 q.2 c kd) :: f_ops rs c kd r := by
            have : f_ops rs c kd ps = f_ops rs c kd (dn ++ [q]) ++ f_ops rs c kd r := by
              rw [← h2]
              unfold f_ops
              rw [List.filterMap_append]
            rw [this, es]
            unfold f_opq
            rw [if_neg hz, List.append_assoc]
            rfl
          have hpos : 0 < (f_ops rs c kd ps).length := by rw [eo, List.length_append, List.length_cons]; omega
          have hb : (f_ops rs c kd dn).length ≤ m % (f_ops rs c kd ps).length := hb.elim (fun z => by omega) id
          have hmod := Nat.mod_lt m hpos
          have ed : nI m - nI m / nI (f_ops rs c kd ps).length * nI (f_ops rs c kd ps).length = nI (m % (f_ops rs c kd ps).length) := pk_rem (by omega) hpos (by omega)
          refine And.intro (fun z => absurd ((nI_eq (b := 0) (by omega) (by omega)).mp z) (by omega)) ?_
          refine And.intro (fun z => ?_) (fun z => ?_)
          · have z : nI (f_ops rs c kd dn).length = nI m - nI m / nI (f_ops rs c kd ps).length * nI (f_ops rs c kd ps).length := z
            rw [ed] at z
            have z := (nI_eq (by omega) (by omega)).mp z
            refine And.intro a2 (f_fin hsp (congrArg (fun z => some (Value.int z)) ?_) rfl)
            show nI (f_nmb (f_ops rs c kd ps) m) = M.1 107 (nI dn.length).toNatClampNeg
            rw [a3]
            unfold f_nmb
            rw [if_neg (by omega), ← z]
            have : f_og (f_ops rs c kd ps) (f_ops rs c kd dn).length = (q.1, q.2, f_frb rs q.1 q.2 c kd) := by
              unfold f_og
              rw [List.getD_eq_getElem?_getD, eo, List.getElem?_append_right (Nat.le_refl _), Nat.sub_self]
              rfl
            rw [this]
          · have z : ¬ nI (f_ops rs c kd dn).length = nI m - nI m / nI (f_ops rs c kd ps).length * nI (f_ops rs c kd ps).length := z
            rw [ed] at z
            have z : ¬ (f_ops rs c kd dn).length = m % (f_ops rs c kd ps).length := fun x => z (by rw [x])
            have e2 : (f_ops rs c kd (dn ++ [q])).length = (f_ops rs c kd dn).length + 1 := by
              rw [es]; unfold f_opq; rw [if_neg hz, List.length_append]; rfl
            have q1 := ih (dn ++ [q]) h2 (Or.inr (by rw [e2]; omega))
            rw [e2, h3, nI_succ dn.length, nI_succ (f_ops rs c kd dn).length] at q1
            exact q1
    have first : ∀ (r dn : List (Nat × Nat)), dn ++ r = ps → X f_GM 4 [some (.ref 100), some (.int (nI m)), some (.int (nI (f_ops rs c kd dn).length)), some (.int (nI dn.length)), none] [] M := by
      intro r
      induction r with
      | nil =>
        intro dn hd
        rw [List.append_nil] at hd
        subst hd
        refine f_run_ok (stop := fun q => Nat.beq q 40) hX 30 _ _ _ _ _ ?_
        refine And.intro (fun _ => ?_) (fun e => ?_)
        · exact second dn [] rfl (by
            rcases Nat.eq_zero_or_pos (f_ops rs c kd dn).length with e | e
            · exact Or.inl e
            · exact Or.inr (Nat.zero_le _))
        · have e : ¬ M.1 100 17 ≤ nI dn.length := e
          rw [hF.1.1] at e
          exact absurd (nI_le (Nat.le_refl _) (by omega)) e
      | cons q r ih =>
        intro dn hd
        obtain ⟨h1, h2, h3, h4⟩ := f_split hd
        obtain ⟨a0, a2, a3, a4, a5, a6, _, _⟩ := hF.at h1
        have es := f_ops_snoc rs c kd dn q
        have q1 := ih (dn ++ [q]) h2
        rw [h3, nI_succ dn.length] at q1
        have fin : ∀ w : Int32, nI (f_ops rs c kd dn).length + w = nI (f_ops rs c kd (dn ++ [q])).length → X f_GM 27 [some (.ref 100), some (.int (nI m)), some (.int (nI (f_ops rs c kd dn).length)), some (.int (nI dn.length)), none] [.int w, .int (nI (f_ops rs c kd dn).length)] M := by
          intro w hw
          rw [← hw] at q1
          exact f_run_ok (stop := fun q => Nat.beq q 4) hX 20 _ _ _ _ _ q1
        refine f_run_ok (stop := fun q => Nat.beq q 27) hX 40 _ _ _ _ _ ?_
        refine And.intro (fun e => ?_) (fun _ => And.intro a2 ?_)
        · have e : M.1 100 17 ≤ nI dn.length := e
          rw [hF.1.1] at e
          exact absurd ((nI_leI (by omega) (by omega)).mp e) (by omega)
        refine And.intro (fun e => ?_) (fun e => ?_)
        · have e : M.1 107 (nI dn.length).toNatClampNeg = 0 := e
          rw [a3] at e
          have e := (nI_eq (b := 0) (by omega) (by omega)).mp e
          exact fin 0 (by rw [f_add0, es]; unfold f_opq; rw [if_pos e, List.append_nil])
        · have e : ¬ M.1 107 (nI dn.length).toNatClampNeg = 0 := e
          rw [a3] at e
          have hz : ¬ f_frb rs q.1 q.2 c kd = 0 := fun x => e (by rw [x]; rfl)
          exact fin 1 (by rw [es]; unfold f_opq; rw [if_neg hz, List.length_append]; exact (nI_succ _).symm)
    refine f_run_ok (stop := fun q => Nat.beq q 4) hX 20 _ _ _ _ _ ?_
    exact first ps [] rfl
/-! inmost -/
def f_imN (f t S : Nat) (σ : Nat × Nat) : Nat → Nat × Nat
  | 0 => σ
  | n + 1 => if S.testBit (f + 1 + n) = true ∧ (f_imN f t S σ n).1 ≤ min (f + 1 + n - f) (t - (f + 1 + n)) then (min (f + 1 + n - f) (t - (f + 1 + n)), if (f_imN f t S σ n).1 < min (f + 1 + n - f) (t - (f + 1 + n)) then 2 ^ (f + 1 + n) else (f_imN f t S σ n).2 ||| 2 ^ (f + 1 + n)) else f_imN f t S σ n
theorem f_imN_far (f t S : Nat) : ∀ n, f_imN f t S (0, 0) n = f_farN f t S n := by
  intro n
  induction n with
  | zero => rfl
  | succ n ih => unfold f_imN f_farN; rw [ih]
theorem f_imN_no {f t S : Nat} {σ : Nat × Nat} : ∀ n, (∀ x, f < x → x < f + 1 + n → S.testBit x = false) → f_imN f t S σ n = σ := by
  intro n
  induction n with
  | zero => intro _; rfl
  | succ n ih =>
    intro h
    unfold f_imN
    rw [if_neg (fun z => by rw [h (f + 1 + n) (by omega) (by omega)] at z; cases z.1)]
    exact ih (fun x h1 h2 => h x h1 (by omega))
def f_imS (S : Nat) (σ : Nat × Nat) (q : Nat × Nat) : Nat × Nat := f_imN q.1 q.2 S σ (q.2 - (q.1 + 1))
def f_inm (ps : List (Nat × Nat)) (S : Nat) : Nat := (ps.foldl (f_imS S) (0, 0)).2
theorem f_imS_no {S : Nat} : ∀ (l : List (Nat × Nat)) (σ : Nat × Nat), (∀ q ∈ l, ∀ x, q.1 < x → x < q.2 → S.testBit x = false) → l.foldl (f_imS S) σ = σ := by
  intro l
  induction l with
  | nil => intro σ _; rfl
  | cons q l ih =>
    intro σ h
    rw [List.foldl_cons]
    have e : f_imS S σ q = σ := f_imN_no _ (fun x h1 h2 => h q List.mem_cons_self x h1 (by omega))
    rw [e]
    exact ih σ (fun q hq => h q (List.mem_cons_of_mem _ hq))
theorem f_imN_b {f t S : Nat} {σ : Nat × Nat} (ht : t ≤ 17) (h1 : σ.1 ≤ 17) (h2 : σ.2 < 2 ^ 17) : ∀ n, f + 1 + n ≤ t → (f_imN f t S σ n).1 ≤ 17 ∧ (f_imN f t S σ n).2 < 2 ^ 17 := by
  intro n
  induction n with
  | zero => intro _; exact ⟨h1, h2⟩
  | succ n ih =>
    intro hn
    obtain ⟨a, b⟩ := ih (by omega)
    have hp : 2 ^ (f + 1 + n) < 2 ^ 17 := Nat.pow_lt_pow_right (by decide) (by omega)
    unfold f_imN
    split
    · refine ⟨by show min _ _ ≤ 17; omega, ?_⟩
      show (if _ then _ else _) < 2 ^ 17
      split
      · exact hp
      · exact n_or_lt b hp
    · exact ⟨a, b⟩
def S_inm : fSp := fun G As M R => match As with
  | [.ref 100, .int z] => ∃ (ps : List (Nat × Nat)) (S : Nat), G = f_GM ∧ f_PC M ps ∧ z = nI S ∧ S < 2 ^ 17 ∧ R G (some (.int (nI (f_inm ps S)))) M
  | _ => False
set_option maxRecDepth 20000 in
theorem m_inm : f_Meets 7 kX12_inmost S_inm := by
  intro G As M R hsp X hX hW
  match As, hsp with
  | [.ref 100, .int z], ⟨ps, S, hG, hP, hz, hS, hsp⟩ =>
    subst hG; subst hz
    have hl := hP.2.1
    have loop : ∀ (r dn : List (Nat × Nat)) (σ : Nat × Nat) (u5 u6 : Option Value), dn ++ r = ps → r.foldl (f_imS S) σ = ps.foldl (f_imS S) (0, 0) → σ.1 ≤ 17 → σ.2 < 2 ^ 17 → X f_GM 7 [some (.ref 100), some (.int (nI S)), some (.int (nI σ.2)), some (.int (nI σ.1)), some (.int (nI dn.length)), u5, u6] [] M := by
      intro r
      induction r with
      | nil =>
        intro dn σ u5 u6 hd hf b1 b2
        rw [List.append_nil] at hd
        subst hd
        have hf : σ = dn.foldl (f_imS S) (0, 0) := hf
        refine f_run_ok (stop := fun q => false) hX 30 _ _ _ _ _ ?_
        refine And.intro (fun _ => ?_) (fun e => ?_)
        · exact f_fin hsp (by unfold f_inm; rw [← hf]) rfl
        · have e : ¬ M.1 100 17 ≤ nI dn.length := e
          rw [hP.1] at e
          exact absurd (nI_le (Nat.le_refl _) (by omega)) e
      | cons q r ih =>
        intro dn σ u5 u6 hd hf b1 b2
        obtain ⟨h1, h2, h3, h4⟩ := f_split hd
        obtain ⟨p1, p2, p3, p4⟩ := hP.2.2 _ _ h1
        obtain ⟨k1, k2⟩ := f_ix (z := nI dn.length) (n := 17) rfl (by omega) (by omega)
        have efr : M.1 105 (nI dn.length).toNatClampNeg = nI q.1 := by rw [k2]; exact p1
        have eto : M.1 106 (nI dn.length).toNatClampNeg = nI q.2 := by rw [k2]; exact p2
        have hf : r.foldl (f_imS S) (f_imS S σ q) = ps.foldl (f_imS S) (0, 0) := hf
        have inner : ∀ (m n : Nat) (u6 : Option Value), q.1 + 1 + n + m = q.2 → X f_GM 27 [some (.ref 100), some (.int (nI S)), some (.int (nI (f_imN q.1 q.2 S σ n).2)), some (.int (nI (f_imN q.1 q.2 S σ n).1)), some (.int (nI dn.length)), some (.int (nI (q.1 + 1 + n))), u6] [] M := by
          intro m
          induction m with
          | zero =>
            intro n u6 hn
            obtain ⟨c1, c2⟩ := f_imN_b (f := q.1) (t := q.2) (S := S) p4 b1 b2 n (by omega)
            have en : f_imS S σ q = f_imN q.1 q.2 S σ n := by unfold f_imS; rw [show q.2 - (q.1 + 1) = n by omega]
            rw [en] at hf
            refine f_run_ok (stop := fun q => Nat.beq q 7) hX 30 _ _ _ _ _ ?_
            refine And.intro k1 (And.intro (fun _ => ?_) (fun e => ?_))
            · have q1 := ih (dn ++ [q]) (f_imN q.1 q.2 S σ n) (some (.int (nI (q.1 + 1 + n)))) u6 h2 hf c1 c2
              rw [h3, nI_succ dn.length] at q1
              exact q1
            · have e : ¬ M.1 106 (nI dn.length).toNatClampNeg ≤ nI (q.1 + 1 + n) := e
              rw [eto] at e
              exact absurd (nI_le (by omega) (by omega)) e
          | succ m ih2 =>
            intro n u6 hn
            obtain ⟨c1, c2⟩ := f_imN_b (f := q.1) (t := q.2) (S := S) p4 b1 b2 n (by omega)
            have hst : f_imN q.1 q.2 S σ (n + 1) = if S.testBit (q.1 + 1 + n) = true ∧ (f_imN q.1 q.2 S σ n).1 ≤ min (q.1 + 1 + n - q.1) (q.2 - (q.1 + 1 + n)) then (min (q.1 + 1 + n - q.1) (q.2 - (q.1 + 1 + n)), if (f_imN q.1 q.2 S σ n).1 < min (q.1 + 1 + n - q.1) (q.2 - (q.1 + 1 + n)) then 2 ^ (q.1 + 1 + n) else (f_imN q.1 q.2 S σ n).2 ||| 2 ^ (q.1 + 1 + n)) else f_imN q.1 q.2 S σ n := rfl
            generalize hnr : min (q.1 + 1 + n - q.1) (q.2 - (q.1 + 1 + n)) = nr at *
            have hnb : nr ≤ 17 := by omega
            have eb := n_sb (n := S) (k := q.1 + 1 + n) (by omega) (by omega)
            have q1 := ih2 (n + 1)
            rw [hst] at q1
            generalize f_imN q.1 q.2 S σ n = τ at *
            -- behind the nearer end
            have fin : ∀ zn : Int32, zn = nI nr → X f_GM 85 [some (.ref 100), some (.int (nI S)), some (.int (nI τ.2)), some (.int (nI τ.1)), some (.int (nI dn.length)), some (.int (nI (q.1 + 1 + n))), u6] [.int zn] M := by
              intro zn hzn
              subst hzn
              refine f_run_ok (stop := fun q => Nat.beq q 27 || Nat.beq q 126) hX 60 _ _ _ _ _ ?_
              have tail : ∀ w : Nat, (S.testBit (q.1 + 1 + n) = true) → (w = if τ.1 < nr then 2 ^ (q.1 + 1 + n) else if nr = τ.1 then τ.2 ||| 2 ^ (q.1 + 1 + n) else τ.2) → X f_GM 126 [some (.ref 100), some (.int (nI S)), some (.int (nI τ.2)), some (.int (nI τ.1)), some (.int (nI dn.length)), some (.int (nI (q.1 + 1 + n))), some (.int (nI nr))] [.int (nI w)] M := by
                intro w hb hw
                have q2 := q1 (some (.int (nI nr))) (by omega)
                refine f_run_ok (stop := fun q => Nat.beq q 27) hX 60 _ _ _ _ _ ?_
                refine And.intro (fun e => ?_) (fun e => ?_)
                · have e := (nI_leI (by omega) (by omega)).mp e
                  rw [if_neg (by omega)] at hw
                  by_cases e2 : nr = τ.1
                  · rw [if_pos e2] at hw
                    rw [if_pos ⟨hb, by omega⟩, if_neg (by omega)] at q2
                    rw [hw, ← e2]
                    show X f_GM 27 [some (.ref 100), some (.int (nI S)), some (.int (nI (τ.2 ||| 2 ^ (q.1 + 1 + n)))), some (.int (nI nr)), some (.int (nI dn.length)), some (.int (nI (q.1 + 1 + n) + 1)), some (.int (nI nr))] [] M
                    rw [← nI_succ]
                    exact q2
                  · rw [if_neg e2] at hw
                    rw [if_neg (fun z => by omega)] at q2
                    rw [hw]
                    show X f_GM 27 [some (.ref 100), some (.int (nI S)), some (.int (nI τ.2)), some (.int (nI τ.1)), some (.int (nI dn.length)), some (.int (nI (q.1 + 1 + n) + 1)), some (.int (nI nr))] [] M
                    rw [← nI_succ]
                    exact q2
                · have e : ¬ nr ≤ τ.1 := fun x => e (nI_le x (by omega))
                  rw [if_pos (by omega)] at hw
                  rw [if_pos ⟨hb, by omega⟩, if_pos (by omega)] at q2
                  rw [hw]
                  show X f_GM 27 [some (.ref 100), some (.int (nI S)), some (.int (nI (2 ^ (q.1 + 1 + n)))), some (.int (nI nr)), some (.int (nI dn.length)), some (.int (nI (q.1 + 1 + n) + 1)), some (.int (nI nr))] [] M
                  rw [← nI_succ]
                  exact q2
              refine And.intro (fun e => ?_) (fun e => ?_)
              · have e : nI S >>> (nI (q.1 + 1 + n) &&& 31) &&& 1 = 1 := e
                rw [eb] at e
                have e := f_b1.mp e
                refine And.intro (fun e2 => ?_) (fun e2 => ?_)
                · have e2 := (nI_leI (by omega) (by omega)).mp e2
                  refine And.intro (fun e3 => ?_) (fun e3 => ?_)
                  · have e3 := (nI_eq (by omega) (by omega)).mp e3
                    have := tail (τ.2 ||| 2 ^ (q.1 + 1 + n)) e (by rw [if_neg (by omega), if_pos e3])
                    rw [← n_orbit (by omega)] at this
                    exact this
                  · have e3 : ¬ nr = τ.1 := fun x => e3 (by rw [x])
                    exact tail τ.2 e (by rw [if_neg (by omega), if_neg e3])
                · have e2 : ¬ nr ≤ τ.1 := fun x => e2 (nI_le x (by omega))
                  have := tail (2 ^ (q.1 + 1 + n)) e (by rw [if_pos (by omega)])
                  rw [← n_shl (by omega)] at this
                  exact this
              · have e : ¬ nI S >>> (nI (q.1 + 1 + n) &&& 31) &&& 1 = 1 := e
                rw [eb] at e
                have e : ¬ S.testBit (q.1 + 1 + n) = true := fun x => e (f_b1.mpr x)
                have q2 := q1 (some (.int (nI nr))) (by omega)
                rw [if_neg (fun z => e z.1)] at q2
                show X f_GM 27 [some (.ref 100), some (.int (nI S)), some (.int (nI τ.2)), some (.int (nI τ.1)), some (.int (nI dn.length)), some (.int (nI (q.1 + 1 + n) + 1)), some (.int (nI nr))] [] M
                rw [← nI_succ]
                exact q2
            refine f_run_ok (stop := fun q => Nat.beq q 85) hX 60 _ _ _ _ _ ?_
            refine And.intro k1 (And.intro (fun e => ?_) (fun _ => ?_))
            · have e : M.1 106 (nI dn.length).toNatClampNeg ≤ nI (q.1 + 1 + n) := e
              rw [eto] at e
              exact absurd ((nI_leI (by omega) (by omega)).mp e) (by omega)
            refine And.intro k1 (And.intro k1 (And.intro (fun e => ?_) (fun e => ?_)))
            · have e : M.1 106 (nI dn.length).toNatClampNeg - nI (q.1 + 1 + n) ≤ nI (q.1 + 1 + n) - M.1 105 (nI dn.length).toNatClampNeg := e
              rw [eto, efr, pk_sub (by omega), pk_sub (by omega)] at e
              have e := (nI_leI (by omega) (by omega)).mp e
              refine And.intro k1 (fin (M.1 106 (nI dn.length).toNatClampNeg - nI (q.1 + 1 + n)) ?_)
              rw [eto, pk_sub (by omega), ← hnr]
              congr 1
              omega
            · have e : ¬ M.1 106 (nI dn.length).toNatClampNeg - nI (q.1 + 1 + n) ≤ nI (q.1 + 1 + n) - M.1 105 (nI dn.length).toNatClampNeg := e
              rw [eto, efr, pk_sub (by omega), pk_sub (by omega)] at e
              have e : ¬ q.2 - (q.1 + 1 + n) ≤ q.1 + 1 + n - q.1 := fun x => e (nI_le x (by omega))
              refine And.intro k1 (fin (nI (q.1 + 1 + n) - M.1 105 (nI dn.length).toNatClampNeg) ?_)
              rw [efr, pk_sub (by omega), ← hnr]
              congr 1
              omega
        refine f_run_ok (stop := fun q => Nat.beq q 27) hX 30 _ _ _ _ _ ?_
        refine And.intro (fun e => ?_) (fun _ => And.intro k1 ?_)
        · have e : M.1 100 17 ≤ nI dn.length := e
          rw [hP.1] at e
          exact absurd ((nI_leI (by omega) (by omega)).mp e) (by omega)
        show X f_GM 27 [some (.ref 100), some (.int (nI S)), some (.int (nI σ.2)), some (.int (nI σ.1)), some (.int (nI dn.length)), some (.int (M.1 105 (nI dn.length).toNatClampNeg + 1)), u6] [] M
        rw [efr, ← nI_succ]
        exact inner (q.2 - (q.1 + 1)) 0 u6 (by omega)
    refine f_run_ok (stop := fun q => Nat.beq q 7) hX 30 _ _ _ _ _ ?_
    exact loop ps [] (0, 0) none none rfl rfl (Nat.zero_le _) (by decide)
