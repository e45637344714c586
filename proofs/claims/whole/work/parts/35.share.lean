/-! ===== sharing out ===== -/
theorem f_atL_in {n j : Nat} {f : Nat → Int64} (h : j < n) (hb : n < 2 ^ 31) : f_atL n f (nI j) = f j := by
  unfold f_atL
  rw [if_pos ⟨nI_pos' (by omega), nI_lt h hb⟩, nI_clamp (by omega)]
theorem f_putL_in {n c j : Nat} {v : Int64} {M : fMem} (h : j < n) (hb : n < 2 ^ 31) : f_putL n c (nI j) v M = (M.1, f_upL M.2 c j v) := by
  unfold f_putL
  rw [if_pos ⟨nI_pos' (by omega), nI_lt h hb⟩, nI_clamp (by omega)]
def f_ua (w : Nat → Nat) (j q : Nat) : Nat → Nat := fun i => if i = j then w i + q else w i
def f_us (w : Nat → Nat) (j q : Nat) : Nat → Nat := fun i => if i = j then q else w i
def f_shr (S may q : Nat) : Nat → (Nat → Nat) → Nat → Nat
  | 0, w => w
  | n + 1, w => if (decide (1 ≤ n) && may.testBit n) = true then f_ua (f_shr S may q n w) (f_slot (S ||| 2 ^ n)) q else f_shr S may q n w
def f_WT (M : fMem) (w : Nat → Nat) : Prop := ∀ i, i < 697 → M.2 43 i = lN (w i)
theorem f_WT.ua {M : fMem} {w : Nat → Nat} {j q : Nat} (h : f_WT M w) (hj : j < 697) : f_WT (M.1, f_upL M.2 43 j (M.2 43 j + lN q)) (f_ua w j q) := by
  intro i hi
  show (if 43 = 43 then (if i = j then M.2 43 j + lN q else M.2 43 i) else M.2 43 i) = lN (if i = j then w i + q else w i)
  rw [if_pos rfl]
  by_cases e : i = j
  · rw [if_pos e, if_pos e, h j hj, lN_add, e]
  · rw [if_neg e, if_neg e, h i hi]
theorem f_WT.us {M : fMem} {w : Nat → Nat} {j q : Nat} (h : f_WT M w) : f_WT (M.1, f_upL M.2 43 j (lN q)) (f_us w j q) := by
  intro i hi
  show (if 43 = 43 then (if i = j then lN q else M.2 43 i) else M.2 43 i) = lN (if i = j then q else w i)
  rw [if_pos rfl]
  by_cases e : i = j
  · rw [if_pos e, if_pos e]
  · rw [if_neg e, if_neg e, h i hi]
theorem f_ex.upL {cs ds : List Nat} {M M' : fMem} (h : f_ex cs ds M M') {c k : Nat} {v : Int64} (hc : c ∈ ds) : f_ex cs ds M (M'.1, f_upL M'.2 c k v) := ⟨h.1, fun d hd => by
  show f_upL M'.2 c k v d = M.2 d
  rw [← h.2 d hd]
  funext i
  show (if d = c then _ else _) = _
  rw [if_neg]
  intro e
  rw [e] at hd
  exact hd hc⟩
def S_share : fSp := fun G As M R => match As with
  | [.ref 41, .int zS, .int zm, .long zq] => ∃ (S may q : Nat) (w : Nat → Nat), G = f_GX ∧ zS = nI S ∧ zm = nI may ∧ may < 2 ^ 17 ∧ zq = lN q ∧ (∀ x, 1 ≤ x → x < 17 → may.testBit x = true → f_ok (S ||| 2 ^ x)) ∧ f_WT M w ∧ (∀ M', f_ex [] [43] M M' → f_WT M' (f_shr S may q 17 w) → R G none M')
  | _ => False
set_option maxRecDepth 20000 in
theorem m_share : f_Meets 7 (kX2_shareOut S_hasBit S_slot S_longAt S_putLong) S_share := by
  intro G As M R hsp X hX hW
  match As, hsp with
  | [.ref 41, .int zS, .int zm, .long zq], ⟨S, may, q, w, hG, hS, hm, hmb, hq, hok, hwt, hsp⟩ =>
    subst hG; subst hS; subst hm; subst hq
    have loop : ∀ (d n : Nat) (M' : fMem) (u : Option Value), d + n = 17 → 1 ≤ n → f_ex [] [43] M M' → f_WT M' (f_shr S may q n w) → X f_GX 3 [some (.ref 41), some (.int (nI S)), some (.int (nI may)), some (.long (lN q)), none, some (.int (nI n)), u] [] M' := by
      intro d
      induction d with
      | zero =>
        intro n M' u hd h1 he hw'
        have hd : n = 17 := by omega
        subst hd
        refine f_run_ok (stop := fun q => false) hX 30 _ _ _ _ _ ?_
        exact And.intro (fun h => hsp M' he hw') (fun h => absurd ((nI_leI (a := 17) (b := 17) (by omega) (by omega)).mpr (by omega)) h)
      | succ d ih =>
        intro n M' u hd h1 he hw'
        refine f_run_ok (stop := fun q => Nat.beq q 3) hX 50 _ _ _ _ _ ?_
        refine And.intro (fun h => absurd ((nI_leI (a := 17) (b := n) (by omega) (by omega)).mp h) (by omega)) (fun h => ?_)
        refine And.intro (fun h2 => ?_) (fun h2 => ?_)
        · have h2 : f_b (f_bit (nI may) (nI n)) = 0 := h2
          have h2 := f_b0.mp h2
          rw [n_bit (by omega) (by omega)] at h2
          have q1 := ih (n + 1) M' u (by omega) (by omega) he (by
            show f_WT M' (if (decide (1 ≤ n) && may.testBit n) = true then _ else _)
            rw [h2, Bool.and_false, if_neg (by decide)]; exact hw')
          rw [nI_succ] at q1
          exact q1
        · have h2 : ¬ f_b (f_bit (nI may) (nI n)) = 0 := h2
          have h2 := f_b_nt h2
          rw [n_bit (by omega) (by omega)] at h2
          have hk := hok n h1 (by omega) h2
          have hs := (f_set_slot hk).1
          refine ⟨S ||| 2 ^ n, n_orbit (by omega), hk.1, hk.2.1, hk.2.2, ?_⟩
          have q1 := ih (n + 1) _ (some (.int (nI (f_slot (S ||| 2 ^ n))))) (by omega) (by omega) (he.upL (c := 43) (k := f_slot (S ||| 2 ^ n)) (v := M'.2 43 (f_slot (S ||| 2 ^ n)) + lN q) (by decide)) (by
            show f_WT _ (if (decide (1 ≤ n) && may.testBit n) = true then _ else _)
            rw [h2, Bool.and_true, if_pos (decide_eq_true h1)]; exact hw'.ua hs)
          rw [nI_succ, ← f_putL_in (n := 697) hs (by decide), ← f_atL_in (n := 697) (f := M'.2 43) hs (by decide)] at q1
          exact q1
    refine f_run_ok (stop := fun q => Nat.beq q 3) hX 10 _ _ _ _ _ ?_
    exact loop 16 1 M none rfl (by omega) f_ex.rf (by
      show f_WT M (if (decide (1 ≤ 0) && may.testBit 0) = true then _ else _)
      rw [if_neg (by simp)]; exact hwt)
