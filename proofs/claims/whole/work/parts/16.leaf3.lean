def f_sum (t : Nat × (Nat → Int32)) : Nat → Int32
  | 0 => 0
  | n + 1 => f_sum t n + f_at t (nI n)
def S_sumOf : fSp := fun G As M R => match As with
  | [.ref c, .int z] => match f_arI 0 G M c with
    | some t => R G (some (.int (f_sum t z.toInt.toNat))) M
    | none => False
  | _ => False
theorem f_toNat_lt (z : Int32) : z.toInt.toNat < 2 ^ 31 := by
  have := Int32.toInt_lt z
  omega
theorem f_le_iff {z : Int32} {j : Nat} (hj : j < 2 ^ 31) : z ≤ nI j ↔ z.toInt.toNat ≤ j := by
  rw [Int32.le_iff_toInt_le, nI_toInt hj]
  omega
theorem m_sumOf : f_Meets 4 (kX11_sumOf S_at) S_sumOf := by
  intro G As M R hsp X hX hW
  match As, hsp with
  | [.ref c, .int z], hsp =>
    cases ht : f_arI 0 G M c with
    | none => simp only [S_sumOf, ht] at hsp
    | some t =>
      simp only [S_sumOf, ht] at hsp
      have hz := f_toNat_lt z
      have loop : ∀ k j, j + k = z.toInt.toNat → X G 4 [some (.ref c), some (.int z), some (.int (f_sum t j)), some (.int (nI j))] [] M := by
        intro k
        induction k with
        | zero =>
          intro j hj
          refine f_run_ok (stop := fun q => Nat.beq q 4) hX 20 _ _ _ _ _ ?_
          refine And.intro (fun h => ?_) (fun h => ?_)
          · exact f_fin hsp (by rw [show z.toInt.toNat = j by omega]) rfl
          · exact absurd ((f_le_iff (by omega)).mpr (by omega)) h
        | succ k ih =>
          intro j hj
          refine f_run_ok (stop := fun q => Nat.beq q 4) hX 20 _ _ _ _ _ ?_
          refine And.intro (fun h => ?_) (fun h => ?_)
          · have := (f_le_iff (by omega)).mp h
            omega
          · show match f_arI 0 G M c with | some t => _ | none => False
            rw [ht]
            have := ih (j + 1) (by omega)
            rw [nI_succ] at this
            exact this
      refine f_run_ok (stop := fun q => Nat.beq q 4) hX 20 _ _ _ _ _ ?_
      exact loop z.toInt.toNat 0 (by omega)
def f_plc (b k : Int32) : Nat → Nat → Nat → Int32
  | 0, _, _ => -1
  | n + 1, j, m => if f_bit b (nI j) = true then (if nI m = k then nI j else f_plc b k n (j + 1) (m + 1)) else f_plc b k n (j + 1) m
def S_placeOf : fSp := fun G As M R => match As with
  | [.int b, .int k] => R G (some (.int (f_plc b k 17 0 0))) M
  | _ => False
theorem m_placeOf : f_Meets 4 (kX11_placeOf S_hasBit) S_placeOf := by
  intro G As M R hsp X hX hW
  match As, hsp with
  | [.int b, .int k], hsp =>
    have loop : ∀ n j m, j + n = 17 → m ≤ j → f_plc b k n j m = f_plc b k 17 0 0 → X G 4 [some (.int b), some (.int k), some (.int (nI m)), some (.int (nI j))] [] M := by
      intro n
      induction n with
      | zero =>
        intro j m hj hm he
        refine f_run_ok (stop := fun q => Nat.beq q 4) hX 30 _ _ _ _ _ ?_
        refine And.intro (fun h => ?_) (fun h => ?_)
        · exact f_fin hsp (by rw [← he]; rfl) rfl
        · exact absurd ((nI_leI (a := 17) (by omega) (by omega)).mpr (by omega)) h
      | succ n ih =>
        intro j m hj hm he
        refine f_run_ok (stop := fun q => Nat.beq q 4) hX 30 _ _ _ _ _ ?_
        refine And.intro (fun h => ?_) (fun h => ?_)
        · have := (nI_leI (a := 17) (by omega) (by omega)).mp h
          omega
        · refine And.intro (fun h2 => ?_) (fun h2 => ?_)
          · have h2 : f_bit b (nI j) = false := f_b0.mp h2
            have := ih (j + 1) m (by omega) (by omega) (by rw [← he]; simp [f_plc, h2])
            rw [nI_succ] at this
            exact this
          · have h2 : f_bit b (nI j) = true := by
              cases hb : f_bit b (nI j) with
              | true => rfl
              | false => exact absurd (f_b0.mpr hb) h2
            refine And.intro (fun h3 => ?_) (fun h3 => ?_)
            · have h3 : nI m = k := h3
              exact f_fin hsp (by rw [← he]; simp [f_plc, h2, h3]) rfl
            · have h3 : ¬ nI m = k := h3
              have := ih (j + 1) (m + 1) (by omega) (by omega) (by rw [← he]; simp [f_plc, h2, h3])
              rw [nI_succ, nI_succ] at this
              exact this
    refine f_run_ok (stop := fun q => Nat.beq q 4) hX 20 _ _ _ _ _ ?_
    exact loop 17 0 0 (by omega) (by omega) rfl
/-! greatest common divisors of longs -/
theorem f_lrem {a b : Nat} (ha : a < 2 ^ 63) (h0 : 0 < b) (hb : b < 2 ^ 63) : lN a - lN a / lN b * lN b = lN (a % b) := pk_lRem ha h0 hb
theorem f_l0 {b : Nat} (h0 : 0 < b) (hb : b < 2 ^ 63) : ¬ lN b = 0 := fun h => by
  have := (pk_lEQ (b := 0) hb (by omega)).mp h
  omega
theorem f_lc0 {b : Nat} (hb : b < 2 ^ 63) : lg_cmp (lN b) 0 = 0 ↔ b = 0 := by
  have e : (lN b = 0) ↔ b = 0 := pk_lEQ (b := 0) hb (by omega)
  have g : (0 < lN b) ↔ 0 < b := pk_lLT (a := 0) (by omega) hb
  by_cases h : b = 0
  · subst h
    exact ⟨fun _ => rfl, fun _ => rfl⟩
  · refine ⟨fun q => ?_, fun q => absurd q h⟩
    have h1 : (0 : Int64) < lN b := g.mpr (by omega)
    simp [lg_cmp, h1] at q
def f_part (u v : Nat) (p : Int32) : Int64 := lN ((if p = 0 then u else v) / Nat.gcd u v)
def S_partOf : fSp := fun G As M R => match As with
  | [.long x, .long z, .int p] => 0 ≤ x.toInt ∧ 0 < z.toInt ∧ R G (some (.long (f_part x.toInt.toNat z.toInt.toNat p))) M
  | _ => False
theorem f_lNat {x : Int64} (h : 0 ≤ x.toInt) : x.toInt.toNat < 2 ^ 63 ∧ lN x.toInt.toNat = x := by
  have h2 := Int64.toInt_lt x
  have h3 : x.toInt.toNat < 2 ^ 63 := by omega
  refine ⟨h3, Int64.toInt_inj.mp ?_⟩
  rw [pk_lT h3]
  omega
theorem m_partOf : f_Meets 12 kX11_partOf S_partOf := by
  intro G As M R hsp X hX hW
  match As, hsp with
  | [.long x, .long z, .int p], ⟨hx, hz, hsp⟩ =>
    obtain ⟨u1, u2⟩ := f_lNat hx
    obtain ⟨v1, v2⟩ := f_lNat (Int.le_of_lt hz)
    have vp : 0 < z.toInt.toNat := by omega
    generalize hu : x.toInt.toNat = u at hsp u1 u2
    generalize hv : z.toInt.toNat = v at hsp v1 v2 vp
    have fin : ∀ (d r : Nat) (i : Int32) (o1 o2 : Option Value), d < 2 ^ 63 → d = Nat.gcd u v → X G 45 [some (.long x), none, some (.long z), none, some (.int p), some (.long (lN d)), none, some (.long (lN r)), none, some (.int i), o1, o2] [] M := by
      intro d r i o1 o2 hd he
      have hd0 : 0 < d := by rw [he]; exact Nat.gcd_pos_of_pos_right _ vp
      refine f_run_ok (stop := fun q => false) hX 30 _ _ _ _ _ ?_
      refine And.intro (fun h => ?_) (fun h => ?_)
      · have := (f_lc0 hd).mp h
        omega
      · refine And.intro (fun h2 => ?_) (fun h2 => ?_)
        · refine And.intro (f_l0 hd0 hd) ?_
          refine f_fin hsp ?_ rfl
          have h2 : p = 0 := h2
          show _ = some (Value.long (x / lN d))
          rw [← u2, pk_lDiv u1 hd0 hd]
          simp [f_part, h2, he]
        · refine And.intro (f_l0 hd0 hd) ?_
          refine f_fin hsp ?_ rfl
          have h2 : ¬ p = 0 := h2
          show _ = some (Value.long (z / lN d))
          rw [← v2, pk_lDiv v1 hd0 hd]
          simp [f_part, h2, he]
    have loop : ∀ n (a b i : Nat) (o1 o2 : Option Value), a < 2 ^ 63 → b < 2 ^ n → n ≤ 63 → i + (2 * n + 1) ≤ 200 → Nat.gcd a b = Nat.gcd u v → X G 9 [some (.long x), none, some (.long z), none, some (.int p), some (.long (lN a)), none, some (.long (lN b)), none, some (.int (nI i)), o1, o2] [] M := by
      have step : ∀ (a b i : Nat) (o1 o2 : Option Value), a < 2 ^ 63 → b < 2 ^ 63 → i < 200 → Nat.gcd a b = Nat.gcd u v → (0 < b → ∀ o1 o2, X G 9 [some (.long x), none, some (.long z), none, some (.int p), some (.long (lN b)), none, some (.long (lN (a % b))), none, some (.int (nI (i + 1))), o1, o2] [] M) → X G 9 [some (.long x), none, some (.long z), none, some (.int p), some (.long (lN a)), none, some (.long (lN b)), none, some (.int (nI i)), o1, o2] [] M := by
        intro a b i o1 o2 ha hb hi hg hk
        refine f_run_ok (stop := fun q => Nat.beq q 9 || Nat.beq q 45) hX 40 _ _ _ _ _ ?_
        refine And.intro (fun h => ?_) (fun h => ?_)
        · have := (nI_leI (a := 200) (by omega) (by omega)).mp h
          omega
        · refine And.intro (fun h2 => ?_) (fun h2 => ?_)
          · have h2 := (f_lc0 hb).mp h2
            exact fin a b (nI i) o1 o2 ha (by rw [← hg, h2, Nat.gcd_zero_right])
          · have hb0 : 0 < b := by
              rcases Nat.eq_zero_or_pos b with q | q
              · exact absurd ((f_lc0 hb).mpr q) h2
              · exact q
            refine And.intro (f_l0 hb0 hb) ?_
            have := hk hb0 (some (.long (lN (a % b)))) none
            rw [nI_succ] at this
            show X G 9 [some (.long x), none, some (.long z), none, some (.int p), some (.long (lN b)), none, some (.long (lN a - lN a / lN b * lN b)), none, some (.int (nI i + 1)), some (.long (lN a - lN a / lN b * lN b)), none] [] M
            rw [f_lrem ha hb0 hb]
            exact this
      intro n
      induction n with
      | zero =>
        intro a b i o1 o2 ha hb hn hi hg
        refine step a b i o1 o2 ha (by omega) (by omega) hg (fun h => ?_)
        simp at hb
        omega
      | succ n ih =>
        intro a b i o1 o2 ha hb hn hi hg
        have h63 : 2 ^ (n + 1) ≤ 2 ^ 63 := Nat.pow_le_pow_right (by omega) hn
        have hb63 : b < 2 ^ 63 := by omega
        refine step a b i o1 o2 ha hb63 (by omega) hg (fun h o1 o2 => ?_)
        have hr : a % b < b := Nat.mod_lt _ h
        have hg2 : Nat.gcd b (a % b) = Nat.gcd u v := by rw [← hg, Nat.gcd_comm a b]; rw [Nat.gcd_comm b (a % b)]; exact (Nat.gcd_rec b a).symm
        by_cases hlt : a % b < 2 ^ n
        · exact ih b (a % b) (i + 1) o1 o2 hb63 hlt (by omega) (by omega) hg2
        · refine step b (a % b) (i + 1) o1 o2 hb63 (by omega) (by omega) hg2 (fun h3 o1 o2 => ?_)
          have e2 : b % (a % b) = b - a % b := by
            rw [Nat.mod_eq_sub_mod (by omega)]
            refine Nat.mod_eq_of_lt ?_
            rw [Nat.pow_succ] at hb
            omega
          refine ih (a % b) (b % (a % b)) (i + 1 + 1) o1 o2 (by omega) ?_ (by omega) (by omega) ?_
          · rw [e2]
            rw [Nat.pow_succ] at hb
            omega
          · rw [← hg2, Nat.gcd_comm b (a % b)]; rw [Nat.gcd_comm (a % b) (b % (a % b))]; exact (Nat.gcd_rec (a % b) b).symm
    refine f_run_ok (stop := fun q => Nat.beq q 9) hX 20 _ _ _ _ _ ?_
    have := loop 63 u v 0 none none u1 v1 (by omega) (by omega) rfl
    rw [u2, v2] at this
    exact this
