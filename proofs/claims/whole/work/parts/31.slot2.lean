/-! ===== the slot of a set ===== -/
def f_tz : Nat → Nat → Nat
  | 0, _ => 0
  | f + 1, n => if n % 2 = 1 then 0 else f_tz f (n / 2) + 1
theorem f_tz_eq : ∀ (k f m : Nat), k < f → f_tz f (2 ^ k * (2 * m + 1)) = k := by
  intro k
  induction k with
  | zero =>
    intro f m h
    obtain ⟨g, rfl⟩ : ∃ g, f = g + 1 := ⟨f - 1, by omega⟩
    show (if _ then _ else _) = _
    rw [if_pos (by omega)]
  | succ k ih =>
    intro f m h
    obtain ⟨g, rfl⟩ : ∃ g, f = g + 1 := ⟨f - 1, by omega⟩
    have e : 2 ^ (k + 1) * (2 * m + 1) = 2 * (2 ^ k * (2 * m + 1)) := by rw [Nat.pow_succ, Nat.mul_comm (2 ^ k) 2, Nat.mul_assoc]
    show (if _ then _ else _) = _
    rw [e, if_neg (by omega), show 2 * (2 ^ k * (2 * m + 1)) / 2 = 2 ^ k * (2 * m + 1) by omega, ih g m (by omega)]
def f_bin (s n : Nat) : Nat := if s = 1 then n else if s = 2 then n * (n - 1) / 2 else n * (n - 1) * (n - 2) / 6
def f_slr : Nat → Nat → Nat → Nat → Nat
  | 0, _, slot, _ => slot
  | f + 1, s, slot, r => if r = 0 then slot else f_slr f (s + 1) (slot + f_bin s (f_tz 17 r - 1)) (r &&& (r - 1))
def f_base (c : Nat) : Nat := if c = 0 then 0 else if c = 1 then 1 else if c = 2 then 17 else 137
def f_slot (S : Nat) : Nat := f_slr 3 1 (f_base (f_pc S)) S
theorem f_arI_base (G : fG) (M : fMem) : ∃ g, f_arI 0 G M 1001 = some (4, g) ∧ ∀ c, c < 4 → g c = nI (f_base c) := ⟨_, rfl, by decide +kernel⟩
def S_slot : fSp := fun G As M R => match As with
  | [.int v] => ∃ S, v = nI S ∧ S < 2 ^ 17 ∧ S.testBit 0 = false ∧ f_pc S ≤ 3 ∧ R G (some (.int (nI (f_slot S)))) M
  | _ => False
set_option maxRecDepth 20000 in
theorem m_slot : f_Meets 5 (kX2_slotOf S_bitCount S_at S_ntz) S_slot := by
  intro G As M R hsp X hX hW
  match As, hsp with
  | [.int v], ⟨S, hv, hS, h0, hc, hsp⟩ =>
    subst hv
    obtain ⟨g, hg, hgb⟩ := f_arI_base G M
    have loop : ∀ (f s slot r : Nat) (x : Option Value), s + f = 4 → 1 ≤ s → r < 2 ^ 17 → (∀ i, i < s → r.testBit i = false) → (∀ w, f_slr f s slot r = w → R G (some (.int (nI w))) M) → X G 15 [some (.int (nI S)), some (.int (nI r)), some (.int (nI slot)), some (.int (nI s)), x] [] M := by
      intro f
      induction f with
      | zero =>
        intro s slot r x hs h1 hr hb hR
        have hs : s = 4 := by omega
        subst hs
        refine f_run_ok (stop := fun q => false) hX 30 _ _ _ _ _ ?_
        refine And.intro (fun h => ?_) (fun h => absurd (show (3 : Int32) < nI 4 by decide) h)
        exact hR _ rfl
      | succ f ih =>
        intro s slot r x hs h1 hr hb hR
        refine f_run_ok (stop := fun q => Nat.beq q 15) hX 60 _ _ _ _ _ ?_
        refine And.intro (fun h => ?_) (fun h => ?_)
        · exact absurd ((nI_ltI (a := 3) (by omega) (by omega)).mp h) (by omega)
        refine And.intro (fun h2 => ?_) (fun h2 => ?_)
        · have h2 : nI r = nI 0 := h2
          have h2 := (nI_eq (by omega) (by omega)).mp h2
          refine hR _ ?_
          show (if _ then _ else _) = _
          rw [if_pos h2]
        · have h2 : ¬ r = 0 := fun z => h2 (by rw [z]; rfl)
          obtain ⟨k, m, hk⟩ := f_low_ex r (by omega)
          have hlt : 2 ^ k * (2 * m + 1) < 2 ^ 17 := by rw [← hk]; exact hr
          have hk16 := f_low_k hlt
          have hks : s ≤ k := by
            refine Nat.le_of_not_lt fun q => ?_
            have := hb k q
            rw [hk, f_low_bits] at this
            simp at this
          have hand : r &&& (r - 1) = 2 ^ k * (2 * m) := by rw [hk, f_low_and]
          have htz : f_tz 17 r = k := by rw [hk, f_tz_eq k 17 m (by omega)]
          refine ⟨k, m, by rw [hk], hlt, ?_⟩
          have hl2 : r &&& (r - 1) < 2 ^ 17 := Nat.lt_of_le_of_lt Nat.and_le_left hr
          have hb2 : ∀ i, i < s + 1 → (r &&& (r - 1)).testBit i = false := by
            intro i hi
            rw [hand, Nat.testBit_two_pow_mul]
            by_cases q : i = k
            · subst q
              have : (2 * m) % 2 = 0 := by omega
              simp [Nat.testBit_zero, this]
            · simp [show ¬ k ≤ i by omega]
          have hR2 : ∀ w, f_slr f (s + 1) (slot + f_bin s (k - 1)) (r &&& (r - 1)) = w → R G (some (.int (nI w))) M := by
            intro w hw
            refine hR w ?_
            show (if _ then _ else _) = _
            rw [if_neg h2, htz, hw]
          have e1 : nI k - 1 = nI (k - 1) := pk_sub (b := 1) (by omega)
          have eR : nI r &&& (nI r - 1) = nI (r &&& (r - 1)) := by rw [show nI r - 1 = nI (r - 1) from pk_sub (b := 1) (by omega), fa_and]
          have eS : nI s + 1 = nI (s + 1) := (nI_succ s).symm
          have fin : ∀ z : Int32, z = nI (f_bin s (k - 1)) → X G 15 [some (.int (nI S)), some (.int (nI r &&& (nI r - 1))), some (.int (nI slot + z)), some (.int (nI s + 1)), some (.int (nI k - 1))] [] M := by
            intro z hz
            rw [hz, nI_add, eR, eS]
            exact ih (s + 1) _ _ _ (by omega) (by omega) hl2 hb2 hR2
          refine And.intro (fun h3 => ?_) (fun h3 => ?_)
          · have h3 := (nI_eq (a := s) (b := 1) (by omega) (by omega)).mp h3
            refine fin _ ?_
            show nI k - 1 = _
            rw [e1, f_bin, if_pos h3]
          · have h3 : ¬ s = 1 := fun z => h3 (by rw [z]; rfl)
            refine And.intro (fun h4 => ?_) (fun h4 => ?_)
            · have h4 := (nI_eq (a := s) (b := 2) (by omega) (by omega)).mp h4
              refine And.intro (by decide) ?_
              refine fin _ ?_
              show (nI k - 1) * (nI k - 1 - 1) / 2 = _
              rw [e1, show nI (k - 1) - 1 = nI (k - 1 - 1) from pk_sub (b := 1) (by omega), pk_mul, f_bin, if_neg h3, if_pos h4]
              have : (k - 1) * (k - 1 - 1) ≤ 16 * 16 := Nat.mul_le_mul (by omega) (by omega)
              exact pk_div (d := 2) (by omega) (by omega) (by omega)
            · have h4 : ¬ s = 2 := fun z => h4 (by rw [z]; rfl)
              refine And.intro (by decide) ?_
              refine fin _ ?_
              show (nI k - 1) * (nI k - 1 - 1) * (nI k - 1 - 2) / 6 = _
              rw [e1, show nI (k - 1) - 1 = nI (k - 1 - 1) from pk_sub (b := 1) (by omega), show nI (k - 1) - 2 = nI (k - 1 - 2) from pk_sub (b := 2) (by omega), pk_mul, pk_mul, f_bin, if_neg h3, if_neg h4]
              have : (k - 1) * (k - 1 - 1) ≤ 16 * 16 := Nat.mul_le_mul (by omega) (by omega)
              have : (k - 1) * (k - 1 - 1) * (k - 1 - 2) ≤ 16 * 16 * 16 := Nat.mul_le_mul this (by omega)
              exact pk_div (d := 6) (by omega) (by omega) (by omega)
    refine f_run_ok (stop := fun q => Nat.beq q 15) hX 30 _ _ _ _ _ ?_
    refine ⟨S, rfl, hS, ?_⟩
    have q : match f_arI 0 G M 1001 with | some t => X G 15 [some (.int (nI S)), some (.int (nI S)), some (.int (f_at t (nI (f_pc S)))), some (.int 1), none] [] M | none => False := by
      rw [hg]
      show X G 15 [some (.int (nI S)), some (.int (nI S)), some (.int (f_at (4, g) (nI (f_pc S)))), some (.int 1), none] [] M
      rw [f_at_in (t := (4, g)) (by show _ < 4; omega) (by show 4 < 2 ^ 31; omega)]
      show X G 15 [some (.int (nI S)), some (.int (nI S)), some (.int (g (f_pc S))), some (.int 1), none] [] M
      rw [hgb _ (by omega)]
      exact loop 3 1 _ S none rfl (by omega) hS (fun i hi => by rw [show i = 0 by omega]; exact h0) (fun w hw => by rw [← hw]; exact hsp)
    exact q
