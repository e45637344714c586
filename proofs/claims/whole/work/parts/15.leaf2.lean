def f_b (c : Bool) : Int32 := bif c then 1 else 0
theorem f_b0 {c : Bool} : f_b c = 0 ↔ c = false := by cases c <;> simp [f_b]
theorem f_b1 {c : Bool} : f_b c = 1 ↔ c = true := by cases c <;> simp [f_b]
theorem f_bz (c : Bool) : f_b c = 0 ∨ f_b c = 1 := by cases c <;> simp [f_b]
theorem f_nar (v : Int32) (h : v = 0 ∨ v = 1) : narrow .boolean (.int v) = .int v := by rcases h with h | h <;> rw [h] <;> rfl
def f_pt (n c : Nat) (i v : Int32) (M : fMem) : fMem := if 0 ≤ i ∧ i < Int32.ofNat n then (f_up M.1 c i.toNatClampNeg v, M.2) else M
def S_put : fSp := fun G As M R => match As with
  | [.ref c, .int i, .int v] => match f_arW 0 G c 0 with
    | some n => R G none (f_pt n c i v M)
    | none => False
  | _ => False
theorem f_arW_len {G : fG} {c n lo k : Nat} (h : f_arW lo G c k = some n) : n ≤ 1024 ∧ f_len lo G c = some n := by
  obtain ⟨g1, g2, g3⟩ := f_arW_spec h
  refine ⟨f_sh_len g3, ?_⟩
  unfold f_len
  rw [g3]
  have : f_own lo G c = true := by
    unfold f_arW at h
    rw [g3] at h
    cases hb : f_own lo G c with
    | true => rfl
    | false => rw [hb] at h; cases h
  simp only [this, cond_true]
theorem m_put : f_Meets 3 kX11_put S_put := by
  intro G As M R hsp X hX hW
  match As, hsp with
  | [.ref c, .int i, .int v], hsp =>
    cases ht : f_arW 0 G c 0 with
    | none => simp only [S_put, ht] at hsp
    | some n =>
      simp only [S_put, ht] at hsp
      obtain ⟨hb, hl⟩ := f_arW_len ht
      refine f_run_ok (stop := fun _ => false) hX 20 _ _ _ _ _ ?_
      refine And.intro (fun h => ?_) (fun h => ?_)
      · refine f_fin hsp rfl ?_
        unfold f_pt
        rw [if_neg]
        exact fun q => Int32.not_lt.mpr q.1 h
      · show match f_len 0 G c with | some n => _ | none => False
        rw [hl]
        refine And.intro (fun h2 => ?_) (fun h2 => ?_)
        · refine f_fin hsp rfl ?_
          unfold f_pt
          rw [if_neg]
          exact fun q => Int32.not_lt.mpr h2 q.2
        · show match f_arW 0 G c 0 with | some n => _ | none => False
          rw [ht]
          refine And.intro (f_in_of (by omega) h h2) ?_
          refine f_fin hsp rfl ?_
          unfold f_pt
          rw [if_pos ⟨Int32.not_lt.mp h, Int32.not_le.mp h2⟩]
def f_atL (n : Nat) (f : Nat → Int64) (i : Int32) : Int64 := if 0 ≤ i ∧ i < Int32.ofNat n then f i.toNatClampNeg else 0
def S_longAt : fSp := fun G As M R => match As with
  | [.ref c, .int i] => match f_arW 0 G c 1 with
    | some n => R G (some (.long (f_atL n (M.2 c) i))) M
    | none => False
  | _ => False
theorem m_longAt : f_Meets 2 kX11_longAt S_longAt := by
  intro G As M R hsp X hX hW
  match As, hsp with
  | [.ref c, .int i], hsp =>
    cases ht : f_arW 0 G c 1 with
    | none => simp only [S_longAt, ht] at hsp
    | some n =>
      simp only [S_longAt, ht] at hsp
      obtain ⟨hb, hl⟩ := f_arW_len ht
      refine f_run_ok (stop := fun _ => false) hX 20 _ _ _ _ _ ?_
      refine And.intro (fun h => ?_) (fun h => ?_)
      · refine f_fin hsp ?_ rfl
        unfold f_atL
        rw [if_neg]
        exact fun q => Int32.not_lt.mpr q.1 h
      · show match f_len 0 G c with | some n => _ | none => False
        rw [hl]
        refine And.intro (fun h2 => ?_) (fun h2 => ?_)
        · refine f_fin hsp ?_ rfl
          unfold f_atL
          rw [if_neg]
          exact fun q => Int32.not_lt.mpr h2 q.2
        · show match f_arW 0 G c 1 with | some n => _ | none => False
          rw [ht]
          refine And.intro (f_in_of (by omega) h h2) ?_
          refine f_fin hsp ?_ rfl
          unfold f_atL
          rw [if_pos ⟨Int32.not_lt.mp h, Int32.not_le.mp h2⟩]
def f_putL (n c : Nat) (i : Int32) (v : Int64) (M : fMem) : fMem := if 0 ≤ i ∧ i < Int32.ofNat n then (M.1, f_upL M.2 c i.toNatClampNeg v) else M
def S_putLong : fSp := fun G As M R => match As with
  | [.ref c, .int i, .long v] => match f_arW 0 G c 1 with
    | some n => R G none (f_putL n c i v M)
    | none => False
  | _ => False
theorem m_putLong : f_Meets 4 kX11_putLong S_putLong := by
  intro G As M R hsp X hX hW
  match As, hsp with
  | [.ref c, .int i, .long v], hsp =>
    cases ht : f_arW 0 G c 1 with
    | none => simp only [S_putLong, ht] at hsp
    | some n =>
      simp only [S_putLong, ht] at hsp
      obtain ⟨hb, hl⟩ := f_arW_len ht
      refine f_run_ok (stop := fun _ => false) hX 20 _ _ _ _ _ ?_
      refine And.intro (fun h => ?_) (fun h => ?_)
      · refine f_fin hsp rfl ?_
        unfold f_putL
        rw [if_neg]
        exact fun q => Int32.not_lt.mpr q.1 h
      · show match f_len 0 G c with | some n => _ | none => False
        rw [hl]
        refine And.intro (fun h2 => ?_) (fun h2 => ?_)
        · refine f_fin hsp rfl ?_
          unfold f_putL
          rw [if_neg]
          exact fun q => Int32.not_lt.mpr h2 q.2
        · show match f_arW 0 G c 1 with | some n => _ | none => False
          rw [ht]
          refine And.intro (f_in_of (by omega) h h2) ?_
          refine f_fin hsp rfl ?_
          unfold f_putL
          rw [if_pos ⟨Int32.not_lt.mp h, Int32.not_le.mp h2⟩]
def f_bit (b q : Int32) : Bool := decide ((b >>> (q &&& 31)) &&& 1 = 1)
def S_hasBit : fSp := fun G As M R => match As with
  | [.int b, .int q] => R G (some (.int (f_b (f_bit b q)))) M
  | _ => False
theorem m_hasBit : f_Meets 2 kX11_hasBit S_hasBit := by
  intro G As M R hsp X hX hW
  match As, hsp with
  | [.int b, .int q], hsp =>
    refine f_run_ok (stop := fun _ => false) hX 20 _ _ _ _ _ ?_
    refine And.intro (fun h => ?_) (fun h => ?_)
    · refine And.intro rfl (f_fin hsp ?_ rfl)
      have : f_bit b q = true := decide_eq_true h
      rw [this]; rfl
    · refine And.intro rfl (f_fin hsp ?_ rfl)
      have : f_bit b q = false := decide_eq_false h
      rw [this]; rfl
def f_cpy (M : fMem) (a b n : Nat) : fMem := (fun c i => if c = b then (if i < n then M.1 a i else M.1 b i) else M.1 c i, M.2)
def S_copyRow : fSp := fun G As M R => match As with
  | [.ref a, .ref b] => match f_arW 0 G a 0, f_arW 0 G b 0 with
    | some n, some m => R G none (f_cpy M a b (min n m))
    | _, _ => False
  | _ => False
theorem f_cpy_step (M : fMem) (a b j : Nat) : (f_up (f_cpy M a b j).1 b j ((f_cpy M a b j).1 a j), (f_cpy M a b j).2) = f_cpy M a b (j + 1) := by
  unfold f_cpy f_up
  refine Prod.ext ?_ rfl
  funext c i
  show (if c = b then (if i = j then _ else _) else _) = _
  by_cases hc : c = b
  · subst hc
    rw [if_pos rfl]
    show _ = (if c = c then (if i < j + 1 then M.1 a i else M.1 c i) else M.1 c i)
    rw [if_pos rfl]
    by_cases hi : i = j
    · subst hi
      rw [if_pos rfl, if_pos (by omega)]
      show (if a = c then (if i < i then M.1 a i else M.1 c i) else M.1 a i) = _
      by_cases ha : a = c
      · rw [if_pos ha, if_neg (by omega), ha]
      · rw [if_neg ha]
    · rw [if_neg hi]
      show (if c = c then (if i < j then M.1 a i else M.1 c i) else M.1 c i) = _
      rw [if_pos rfl]
      by_cases hlt : i < j
      · rw [if_pos hlt, if_pos (by omega)]
      · rw [if_neg hlt, if_neg (by omega)]
  · rw [if_neg hc]
    show (if c = b then (if i < j then M.1 a i else M.1 b i) else M.1 c i) = (if c = b then (if i < j + 1 then M.1 a i else M.1 b i) else M.1 c i)
    rw [if_neg hc, if_neg hc]
theorem m_copyRow : f_Meets 3 kX11_copyRow S_copyRow := by
  intro G As M R hsp X hX hW
  match As, hsp with
  | [.ref a, .ref b], hsp =>
    cases ha : f_arW 0 G a 0 with
    | none => simp only [S_copyRow, ha] at hsp
    | some n =>
      cases hb : f_arW 0 G b 0 with
      | none => simp only [S_copyRow, ha, hb] at hsp
      | some m =>
        simp only [S_copyRow, ha, hb] at hsp
        obtain ⟨n1, n2⟩ := f_arW_len ha
        obtain ⟨m1, m2⟩ := f_arW_len hb
        have loop : ∀ k j, j + k = min n m → X G 2 [some (.ref a), some (.ref b), some (.int (nI j))] [] (f_cpy M a b j) := by
          intro k
          induction k with
          | zero =>
            intro j hj
            have hj : j = min n m := by omega
            refine f_run_ok (stop := fun q => Nat.beq q 2) hX 20 _ _ _ _ _ ?_
            show match f_len 0 G a with | some n => _ | none => False
            rw [n2]
            refine And.intro (fun h => ?_) (fun h => ?_)
            · exact f_fin hsp rfl (by rw [hj])
            · show match f_len 0 G b with | some n => _ | none => False
              rw [m2]
              refine And.intro (fun h2 => ?_) (fun h2 => ?_)
              · exact f_fin hsp rfl (by rw [hj])
              · have h : ¬ n ≤ j := fun z => h ((nI_leI (by omega) (by omega)).mpr z)
                have h2 : ¬ m ≤ j := fun z => h2 ((nI_leI (by omega) (by omega)).mpr z)
                omega
          | succ k ih =>
            intro j hj
            refine f_run_ok (stop := fun q => Nat.beq q 2) hX 20 _ _ _ _ _ ?_
            show match f_len 0 G a with | some n => _ | none => False
            rw [n2]
            refine And.intro (fun h => ?_) (fun h => ?_)
            · have h := (nI_leI (by omega) (by omega)).mp h
              omega
            · show match f_len 0 G b with | some n => _ | none => False
              rw [m2]
              refine And.intro (fun h2 => ?_) (fun h2 => ?_)
              · have h2 := (nI_leI (by omega) (by omega)).mp h2
                omega
              · have e : f_arI 0 G (f_cpy M a b j) a = some (n, (f_cpy M a b j).1 a) := by unfold f_arI; rw [ha]
                show match f_arI 0 G (f_cpy M a b j) a with | some t => _ | none => False
                rw [e]
                refine And.intro (vp_in_nI (by omega) (by omega)) ?_
                show match f_arW 0 G b 0 with | some n => _ | none => False
                rw [hb]
                refine And.intro (vp_in_nI (by omega) (by omega)) ?_
                have := ih (j + 1) (by omega)
                rw [← f_cpy_step, nI_succ] at this
                show X G 2 [some (.ref a), some (.ref b), some (.int (nI j + 1))] [] (f_up (f_cpy M a b j).1 b (nI j).toNatClampNeg ((f_cpy M a b j).1 a (nI j).toNatClampNeg), (f_cpy M a b j).2)
                rw [nI_clamp (by omega)]
                exact this
        refine f_run_ok (stop := fun q => Nat.beq q 2) hX 20 _ _ _ _ _ ?_
        have := loop (min n m) 0 (by omega)
        have e0 : f_cpy M a b 0 = M := by
          unfold f_cpy
          refine Prod.ext ?_ rfl
          funext c i
          by_cases hc : c = b
          · simp [hc]
          · simp [hc]
        rw [e0] at this
        exact this
