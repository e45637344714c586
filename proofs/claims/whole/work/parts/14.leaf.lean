/-! ===== leaves: what the small methods say ===== -/
theorem f_run_mono {code : Nat → fTr} {stop : Nat → Bool} {R : fR} {X : fK} (hc : ∀ pc, f_Snd X R pc (code pc)) (n : Nat) (G : fG) (pc : Nat) (ls : fL) (st : List Value) (M : fMem) (h : f_run code stop R (fun _ _ _ _ _ => False) n G pc ls st M) : X G pc ls st M := by
  revert G pc ls st M
  induction n with
  | zero => intro G pc ls st M h; exact h.elim
  | succ n ih =>
    intro G pc ls st M h
    refine hc pc _ (fun G' q ls' st' M' hk => ?_) G ls st M h
    cases hs : stop q with
    | true => rw [hs] at hk; exact hk.elim
    | false => rw [hs] at hk; exact ih _ _ _ _ _ hk
/-- a method without a loop says just what its run says -/
def f_self (maxL : Nat) (code : Nat → fTr) (n : Nat) : fSp := fun G As M R => f_run code (fun _ => false) R (fun _ _ _ _ _ => False) n G 0 (f_entry As maxL) [] M
theorem f_self_ok (maxL : Nat) (code : Nat → fTr) (n : Nat) : f_Meets maxL code (f_self maxL code n) := fun _ _ _ _ hsp _ hX _ => f_run_mono hX n _ _ _ _ _ hsp
theorem f_fin {R : fR} {G : fG} {v v' : Option Value} {M M' : fMem} (h : R G v M) (hv : v = v') (hm : M = M') : R G v' M' := by subst hv; subst hm; exact h
def f_at (t : Nat × (Nat → Int32)) (i : Int32) : Int32 := if 0 ≤ i ∧ i < Int32.ofNat t.1 then t.2 i.toNatClampNeg else 0
def S_at : fSp := fun G As M R => match As with
  | [.ref c, .int i] => match f_arI 0 G M c with
    | some t => R G (some (.int (f_at t i))) M
    | none => False
  | _ => False
theorem f_sh_len {o k n : Nat} (h : f_sh o = .inl (k, n)) : n ≤ 1024 := by
  by_cases ho : o < 2106
  · have : ∀ o, o < 2106 → (match f_sh o with | .inl (_, n) => Nat.ble n 1024 | _ => true) = true := by decide +kernel
    have h1 := this o ho
    rw [h] at h1
    exact Nat.le_of_ble_eq_true h1
  · rw [f_sh_big (by omega)] at h
    cases h
theorem f_arI_len {G : fG} {M : fMem} {c : Nat} {t : Nat × (Nat → Int32)} {lo : Nat} (h : f_arI lo G M c = some t) : t.1 ≤ 1024 ∧ f_len lo G c = some t.1 := by
  unfold f_arI at h
  cases hw : f_arW lo G c 0 with
  | some n =>
    rw [hw] at h
    cases h
    obtain ⟨g1, g2, g3⟩ := f_arW_spec hw
    refine ⟨f_sh_len g3, ?_⟩
    unfold f_len
    rw [g3]
    have : f_own lo G c = true := by
      unfold f_arW at hw
      rw [g3] at hw
      cases hb : f_own lo G c with
      | true => rfl
      | false => rw [hb] at hw; cases hw
    simp only [this, cond_true]
  | none =>
    rw [hw] at h
    change f_tab c = some t at h
    unfold f_tab at h
    split at h
    · rename_i t' ht
      cases hb : Nat.ble 1000 c with
      | false => rw [hb] at h; cases h
      | true =>
        rw [hb] at h
        cases h
        have hle : t.1 ≤ 1024 := by
          by_cases ho : c < 2106
          · have : ∀ o, o < 2106 → (match f_sh o with | .inr (.inr (.inl t)) => Nat.ble t.1 1024 | _ => true) = true := by decide +kernel
            have h1 := this c ho
            rw [ht] at h1
            exact Nat.le_of_ble_eq_true h1
          · rw [f_sh_big (by omega)] at ht
            cases ht
        refine ⟨hle, ?_⟩
        unfold f_len
        rw [ht]
        simp only [hb, cond_true]
    · cases h
theorem f_in_of {i : Int32} {n : Nat} (hn : n < 2 ^ 31) (h0 : ¬ i < 0) (h1 : ¬ Int32.ofNat n ≤ i) : vp_in i n := by
  rw [vp_in_iff]
  rw [Int32.lt_iff_toInt_lt, Int32.toInt_zero] at h0
  rw [Int32.le_iff_toInt_le] at h1
  have c : (nI n).toInt = (n : Int) := nI_toInt hn
  change ¬ (nI n).toInt ≤ i.toInt at h1
  rw [c] at h1
  omega
theorem m_at : f_Meets 2 kX11_at S_at := by
  intro G As M R hsp X hX hW
  match As, hsp with
  | [.ref c, .int i], hsp =>
    cases ht : f_arI 0 G M c with
    | none => simp only [S_at, ht] at hsp
    | some t =>
      simp only [S_at, ht] at hsp
      obtain ⟨hb, hl⟩ := f_arI_len ht
      refine f_run_ok (stop := fun _ => false) hX 20 _ _ _ _ _ ?_
      refine And.intro (fun h => ?_) (fun h => ?_)
      · refine f_fin hsp ?_ rfl
        unfold f_at
        rw [if_neg]
        exact fun q => Int32.not_lt.mpr q.1 h
      · show match f_len 0 G c with | some n => _ | none => False
        rw [hl]
        refine And.intro (fun h2 => ?_) (fun h2 => ?_)
        · refine f_fin hsp ?_ rfl
          unfold f_at
          rw [if_neg]
          exact fun q => Int32.not_lt.mpr h2 q.2
        · show match f_arI 0 G M c with | some t => _ | none => False
          rw [ht]
          refine And.intro (f_in_of (by omega) h h2) ?_
          refine f_fin hsp ?_ rfl
          unfold f_at
          rw [if_pos ⟨Int32.not_lt.mp h, Int32.not_le.mp h2⟩]
