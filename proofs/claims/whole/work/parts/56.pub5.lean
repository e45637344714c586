/-! ===== public methods: stair, sawn, see, orders, chance, lost, who, likeliest ===== -/
set_option maxRecDepth 20000 in
theorem m_x_stair : f_Meets 7 kX11_stair (f_x1 p_stair) := by
  intro G As M R hsp X hX hW
  match As, hsp with
  | [.ref 0, .int m], ⟨s, hG, hS, hR, hsp⟩ =>
    subst hG
    unfold p_stair at hsp
    have bad : (m < 1 ∨ 999 < m) → X f_GX 12 [some (.ref 0), some (.int m), none, none, none, none, none] [] M := by
      intro h
      rw [if_pos h] at hsp
      exact f_run_ok (stop := fun _ => false) hX 10 _ _ _ _ _ (hsp M hR)
    refine f_run_ok (stop := fun q => Nat.beq q 12 || Nat.beq q 25) hX 40 _ _ _ _ _ ?_
    refine And.intro (fun h => bad (Or.inl h)) (fun h => ?_)
    refine And.intro (fun h2 => ?_) (fun h2 => bad (Or.inr (Int32.not_le.mp h2)))
    rw [if_neg (fun z => z.elim h (fun z => Int32.not_lt.mpr h2 z))] at hsp
    clear bad
    obtain ⟨m, hmb, rfl⟩ := nI_of (x := m) (fun z => h (Int32.lt_trans z (by decide)))
    have hm := (nI_leI (b := 999) hmb (by omega)).mp h2
    rw [f_n_nI hmb] at hsp
    have loop : ∀ (n j a b k : Nat) (u : Option Value), j + n = 999 → a ≤ b → b ≤ 2 * a → a ≤ 1998 → k ≤ j → f_str m n a b k = f_str m 999 1 2 0 → X f_GX 25 [some (.ref 0), some (.int (nI m)), some (.int (nI k)), some (.int (nI a)), some (.int (nI b)), some (.int (nI j)), u] [] M := by
      intro n
      induction n with
      | zero =>
        intro j a b k u hj h1 h2 h3 hk he
        refine f_run_ok (stop := fun q => false) hX 40 _ _ _ _ _ ?_
        refine And.intro (fun _ => ?_) (fun z => absurd (nI_le (a := 999) (by omega) (by omega)) z)
        have he : k = f_str m 999 1 2 0 := he
        exact f_fin (hsp M hR) (by rw [← he]; rfl) rfl
      | succ n ih =>
        intro j a b k u hj h1 h2 h3 hk he
        have he : (if a ≤ m then f_str m n b (a + b) (k + 1) else k) = f_str m 999 1 2 0 := he
        refine f_run_ok (stop := fun q => Nat.beq q 25) hX 40 _ _ _ _ _ ?_
        refine And.intro (fun z => absurd ((nI_leI (a := 999) (by omega) (by omega)).mp z) (by omega)) (fun _ => ?_)
        refine And.intro (fun z => ?_) (fun z => ?_)
        · have z := (nI_ltI (by omega) (by omega)).mp z
          rw [if_neg (by omega)] at he
          exact f_fin (hsp M hR) (by rw [← he]; rfl) rfl
        · have z : ¬ m < a := fun q => z (nI_lt q (by omega))
          rw [if_pos (by omega)] at he
          have q := ih (j + 1) b (a + b) (k + 1) (some (.int (nI (a + b)))) (by omega) (by omega) (by omega) (by omega) (by omega) he
          rw [nI_succ j, nI_succ k, ← nI_add a b] at q
          exact q
    exact loop 999 0 1 2 0 none (by omega) (by omega) (by omega) (by omega) (by omega) rfl
/-! sawn: what was in the rows before doesn't count -/
def f_seq (p : Nat) (a b : fSw) : Prop := a.1 = b.1 ∧ (0 < a.1 → ∀ i, i < p → a.2 i = b.2 i)
theorem f_lp_rel {α : Type} {F G : Nat → α → α} {Q : α → α → Prop} : ∀ (n j : Nat) (a b : α), (∀ x, j ≤ x → x < j + n → ∀ a b, Q a b → Q (F x a) (G x b)) → Q a b → Q (f_lp F n j a) (f_lp G n j b) := by
  intro n
  induction n with
  | zero => intro j a b _ h; exact h
  | succ n ih =>
    intro j a b hs h
    exact ih (j + 1) _ _ (fun x h1 h2 => hs x (by omega) (by omega)) (hs j (by omega) (by omega) a b h)
theorem f_sw_rel (p : Nat) : ∀ (d left lg : Nat) (tr tr' : Nat → Nat) (a b : fSw), (∀ i, i + d < p → tr i = tr' i) → f_seq p a b → f_seq p (f_sw p d left lg tr a) (f_sw p d left lg tr' b) := by
  intro d
  induction d with
  | zero =>
    intro left lg tr tr' a b ht h
    have e : f_tri tr p = f_tri tr' p := f_tri_cg (fun i hi => ht i (by omega))
    unfold f_sw
    rw [e, h.1]
    split
    · exact ⟨rfl, fun _ i hi => by show nI (tr i) = nI (tr' i); rw [ht i (by omega)]⟩
    · exact ⟨h.1, h.2⟩
  | succ d ih =>
    intro left lg tr tr' a b ht h
    refine f_lp_rel _ _ _ _ (fun n h1 h2 a b hq => ?_) h
    show f_seq p (if left ≤ n * (d + 1) then _ else _) (if left ≤ n * (d + 1) then _ else _)
    split
    · refine ih _ _ _ _ _ _ (fun i hi => ?_) hq
      show (if i + (d + 1) = p then n else tr i) = (if i + (d + 1) = p then n else tr' i)
      split
      · rfl
      · exact ht i (by omega)
    · exact hq
theorem f_lp_pos {α : Type} {F : Nat → α → α} {Q : α → Prop} : ∀ (n j : Nat) (a : α), (∀ x, j ≤ x → x < j + n → ∀ a, Q a → Q (F x a)) → (∃ x, j ≤ x ∧ x < j + n ∧ ∀ a, Q (F x a)) → Q (f_lp F n j a) := by
  have keep : ∀ (F : Nat → α → α) (Q : α → Prop) (n j : Nat) (a : α), (∀ x, j ≤ x → x < j + n → ∀ a, Q a → Q (F x a)) → Q a → Q (f_lp F n j a) := by
    intro F Q n
    induction n with
    | zero => intro j a _ h; exact h
    | succ n ih =>
      intro j a hs h
      exact ih (j + 1) _ (fun x h1 h2 => hs x (by omega) (by omega)) (hs j (by omega) (by omega) a h)
  intro n
  induction n with
  | zero => intro j a _ h; obtain ⟨x, h1, h2, _⟩ := h; omega
  | succ n ih =>
    intro j a hs h
    obtain ⟨x, h1, h2, h3⟩ := h
    by_cases e : x = j
    · subst e
      exact keep F Q n (x + 1) _ (fun y q1 q2 => hs y (by omega) (by omega)) (h3 a)
    · exact ih (j + 1) _ (fun y q1 q2 => hs y (by omega) (by omega)) ⟨x, by omega, by omega, h3⟩
theorem f_sw_mono (p : Nat) : ∀ (d left lg : Nat) (tr : Nat → Nat) (a : fSw), 0 < a.1 → 0 < (f_sw p d left lg tr a).1 := by
  intro d
  induction d with
  | zero =>
    intro left lg tr a h
    unfold f_sw
    split
    · exact Nat.succ_pos _
    · exact h
  | succ d ih =>
    intro left lg tr a h
    refine f_lp_rel (F := fun n a => if left ≤ n * (d + 1) then f_sw p d (left - n) n (fun i => if i + (d + 1) = p then n else tr i) a else a) (G := fun _ b => b) (Q := fun a _ => 0 < a.1) _ _ a a (fun n h1 h2 a b hq => ?_) h
    show 0 < (if left ≤ n * (d + 1) then _ else _ : fSw).1
    split
    · exact ih _ _ _ _ hq
    · exact hq
theorem f_sw_pos (p : Nat) : ∀ (d left lg : Nat) (tr : Nat → Nat) (a : fSw), d ≤ left → left ≤ d * lg → 0 < (f_sw p d left lg tr a).1 := by
  intro d
  induction d with
  | zero =>
    intro left lg tr a h1 h2
    have : left = 0 := by omega
    unfold f_sw
    split
    · exact Nat.succ_pos _
    · rename_i h
      have : ¬ a.1 ≤ f_tri tr p := fun z => h ⟨this, z⟩
      omega
  | succ d ih =>
    intro left lg tr a h1 h2
    have hd : (left + d) / (d + 1) * (d + 1) ≤ left + d := Nat.div_mul_le_self _ _
    have hd2 : left + d < ((left + d) / (d + 1) + 1) * (d + 1) := by
      have := Nat.lt_mul_div_succ (left + d) (b := d + 1) (by omega)
      rw [Nat.mul_comm] at this
      exact this
    generalize hn : (left + d) / (d + 1) = n at *
    rw [Nat.add_mul, Nat.one_mul] at hd2
    have hn1 : 1 ≤ n := by
      by_cases e : n = 0
      · subst e; omega
      · omega
    have hlg : n ≤ lg := by
      by_cases e : n ≤ lg
      · exact e
      · have h3 : (lg + 1) * (d + 1) ≤ n * (d + 1) := Nat.mul_le_mul_right _ (by omega)
        rw [Nat.add_mul, Nat.one_mul] at h3
        have h4 : (d + 1) * lg = lg * (d + 1) := Nat.mul_comm _ _
        omega
    have hnd : n * (d + 1) = n * d + n := Nat.mul_succ n d
    have hnl : n ≤ left := by
      obtain ⟨t, rfl⟩ : ∃ t, n = t + 1 := ⟨n - 1, by omega⟩
      have : (t + 1) * d = t * d + d := Nat.succ_mul t d
      omega
    have h5 : d ≤ left - n := by
      by_cases e : n = 1
      · omega
      · obtain ⟨t, rfl⟩ : ∃ t, n = t + 2 := ⟨n - 2, by omega⟩
        have : (t + 2) * d = t * d + 2 * d := Nat.add_mul t 2 d
        omega
    have h6 : left - n ≤ d * n := by
      have : d * n = n * d := Nat.mul_comm _ _
      omega
    refine f_lp_pos (F := fun n a => if left ≤ n * (d + 1) then f_sw p d (left - n) n (fun i => if i + (d + 1) = p then n else tr i) a else a) (Q := fun (a : fSw) => 0 < a.1) (min lg left) 1 a (fun x _ _ a ha => ?_) ⟨n, by omega, by omega, fun a => ?_⟩
    · show 0 < (if left ≤ x * (d + 1) then _ else _ : fSw).1
      split
      · exact f_sw_mono p _ _ _ _ _ ha
      · exact ha
    · show 0 < (if left ≤ n * (d + 1) then _ else _ : fSw).1
      rw [if_pos (by omega)]
      exact ih _ _ _ _ h5 h6
theorem f_swn_eq {p L : Nat} (hp : p ≤ L) (h1 : 1 ≤ p) (tr : Nat → Nat) (g : Nat → Int32) : (f_sw p p L L tr (0, g)).1 = (f_swn p L).1 ∧ ∀ i, i < p → (f_sw p p L L tr (0, g)).2 i = (f_swn p L).2 i := by
  have h := f_sw_rel p p L L tr (fun _ => 0) (0, g) (0, fun _ => 0) (fun i hi => by omega) ⟨rfl, fun z => absurd z (by show ¬ 0 < 0; omega)⟩
  have hpos := f_sw_pos p p L L tr (0, g) hp (by
    have := Nat.mul_le_mul_right L h1
    omega)
  exact ⟨h.1, h.2 hpos⟩
set_option maxRecDepth 20000 in
theorem m_x_sawn : f_Meets 3 (kX11_sawn S_swu S_at) (f_x2 p_sawn) := by
  intro G As M R hsp X hX hW
  match As, hsp with
  | [.ref 0, .int p, .int k], ⟨s, hG, hS, hR, hsp⟩ =>
    subst hG
    unfold p_sawn at hsp
    have hL17 := hS.L17
    have bad1 : (k < -1 ∨ 6 ≤ k) → X f_GX 11 [some (.ref 0), some (.int p), some (.int k)] [] M := by
      intro h
      rw [if_pos h] at hsp
      exact f_run_ok (stop := fun _ => false) hX 10 _ _ _ _ _ (hsp M hR)
    refine f_run_ok (stop := fun q => Nat.beq q 11 || Nat.beq q 13) hX 40 _ _ _ _ _ ?_
    refine And.intro (fun h => bad1 (Or.inl h)) (fun h => ?_)
    refine And.intro (fun h2 => ?_) (fun h2 => bad1 (Or.inr (Int32.not_lt.mp h2)))
    rw [if_neg (fun z => z.elim h (fun z => Int32.not_lt.mpr z h2))] at hsp
    clear bad1
    have bad2 : (p < 3 ∨ 6 < p) → X f_GX 24 [some (.ref 0), some (.int p), some (.int k)] [] M := by
      intro h
      rw [if_pos h] at hsp
      exact f_run_ok (stop := fun _ => false) hX 10 _ _ _ _ _ (hsp M hR)
    refine f_run_ok (stop := fun q => Nat.beq q 24 || Nat.beq q 27) hX 40 _ _ _ _ _ ?_
    refine And.intro (fun h3 => bad2 (Or.inl h3)) (fun h3 => ?_)
    refine And.intro (fun h4 => ?_) (fun h4 => bad2 (Or.inr (Int32.not_le.mp h4)))
    rw [if_neg (fun z => z.elim h3 (fun z => Int32.not_lt.mpr h4 z))] at hsp
    clear bad2
    have bad3 : (nI s.1.2.2.1 < p ∨ p ≤ k) → X f_GX 46 [some (.ref 0), some (.int p), some (.int k)] [] M := by
      intro h
      rw [if_pos h] at hsp
      exact f_run_ok (stop := fun _ => false) hX 10 _ _ _ _ _ (hsp M hR)
    refine f_run_ok (stop := fun q => Nat.beq q 46 || Nat.beq q 49) hX 40 _ _ _ _ _ ?_
    refine And.intro (fun h5 => bad3 (Or.inl (by rw [← hR.ln]; exact h5))) (fun h5 => ?_)
    have h5 : ¬ nI s.1.2.2.1 < p := by rw [← hR.ln]; exact h5
    refine And.intro (fun h6 => ?_) (fun h6 => bad3 (Or.inr (Int32.not_lt.mp h6)))
    rw [if_neg (fun z => z.elim h5 (fun z => Int32.not_lt.mpr z h6))] at hsp
    clear bad3
    obtain ⟨P, hPb, rfl⟩ := nI_of (x := p) (fun z => h3 (Int32.lt_trans z (by decide)))
    have p3 := (nI_leI (a := 3) (by omega) hPb).mp (Int32.not_lt.mp h3)
    have p6 := (nI_leI (b := 6) hPb (by omega)).mp h4
    have hPL : P ≤ s.1.2.2.1 := (nI_leI hPb (by omega)).mp (Int32.not_lt.mp h5)
    rw [f_n_nI hPb] at hsp
    refine f_run_ok (stop := fun q => Nat.beq q 67) hX 40 _ _ _ _ _ ?_
    obtain ⟨e1, e2⟩ := f_swn_eq hPL (by omega) (fun _ => 0) (M.1 51)
    refine ⟨s.1.2.2.1, P, fun _ => 0, rfl, hR.ln, hL17, rfl, p6, fun M1 he1 hmo _ hbe => ?_⟩
    have r1 := hR.scr he1 (by decide)
    refine f_run_ok (stop := fun q => false) hX 40 _ _ _ _ _ ?_
    refine And.intro (fun h7 => ?_) (fun h7 => ?_)
    · rw [if_pos h7] at hsp
      refine f_fin (hsp M1 r1) (congrArg (fun z => some (Value.int z)) ?_) rfl
      rw [hmo, e1]
    · rw [if_neg h7] at hsp
      have k0 : 0 ≤ k := by
        have a1 : ¬ k < -1 := h
        have a2 : ¬ k = -1 := h7
        rw [Int32.le_iff_toInt_le, Int32.toInt_zero]
        rw [Int32.lt_iff_toInt_lt] at a1
        have a3 : ¬ k.toInt = -1 := fun z => a2 (Int32.toInt_inj.mp z)
        have a4 : (-1 : Int32).toInt = -1 := by decide
        omega
      obtain ⟨K, hKb, rfl⟩ := nI_of (x := k) (Int32.not_lt.mpr k0)
      have kP := (nI_ltI hKb hPb).mp h6
      rw [f_n_nI hKb] at hsp
      refine f_fin (hsp M1 r1) (congrArg (fun z => some (Value.int z)) ?_) rfl
      show _ = f_at (6, M1.1 51) (nI K)
      rw [f_at_in (t := (6, M1.1 51)) (by show K < 6; omega) (by show 6 < 2 ^ 31; omega), ← e2 K kP]
      exact (hbe K kP).symm
set_option maxRecDepth 20000 in
theorem m_x_see : f_Meets 2 (kX11_see S_put) (f_x1 p_see) := by
  intro G As M R hsp X hX hW
  match As, hsp with
  | [.ref 0, .int l], ⟨s, hG, hS, hR, hsp⟩ =>
    subst hG
    unfold p_see at hsp
    have hsn := hS.sn
    have bad : ¬ l = -1 → (l < 1 ∨ 17 < l) → X f_GX 26 [some (.ref 0), some (.int l)] [] M := by
      intro h h2
      rw [if_neg h, if_pos h2] at hsp
      exact f_run_ok (stop := fun _ => false) hX 10 _ _ _ _ _ (hsp M hR)
    refine f_run_ok (stop := fun q => Nat.beq q 26 || Nat.beq q 29) hX 40 _ _ _ _ _ ?_
    refine And.intro (fun h => ?_) (fun h => ?_)
    · rw [if_pos h] at hsp
      exact hsp _ (hR.sU (k := 1) (i := 12) (w := nI 0) (by decide) (by decide) (hR.1.s05 _))
    · refine And.intro (fun h2 => bad h (Or.inl h2)) (fun h2 => ?_)
      refine And.intro (fun h3 => ?_) (fun h3 => bad h (Or.inr (Int32.not_le.mp h3)))
      rw [if_neg h, if_neg (fun z => z.elim h2 (fun z => Int32.not_lt.mpr h3 z))] at hsp
      have h0 : 0 ≤ l := Int32.le_trans (by decide) (Int32.not_lt.mp h2)
      refine f_run_ok (stop := fun q => Nat.beq q 61) hX 40 _ _ _ _ _ ?_
      refine And.intro (fun h4 => ?_) (fun h4 => ?_)
      · have h4 : M.1 1 12 < 4 := h4
        rw [hR.sn] at h4
        have h4 := (nI_ltI (b := 4) (by omega) (by omega)).mp h4
        rw [if_neg (by omega)] at hsp
        show X f_GX 61 [some (.ref 0), some (.int l)] [] (f_pt 4 12 (M.1 1 12) l M)
        rw [hR.sn, f_pt_in (n := 4) h4 (by decide)]
        refine f_run_ok (stop := fun _ => false) hX 20 _ _ _ _ _ ?_
        have e1 := hR.sU (k := 12) (i := s.1.1 0 5) (w := nI (f_n l)) (by decide) (by decide) (hR.1.s6 _ _)
        have e2 := e1.sU (k := 1) (i := 12) (w := nI (s.1.1 0 5 + 1)) (by decide) (by decide) (e1.1.s05 _)
        rw [f_nn h0] at e2
        have e3 : f_up M.1 12 (s.1.1 0 5) l 1 12 + 1 = nI (s.1.1 0 5 + 1) := by
          show M.1 1 12 + 1 = _
          rw [hR.sn, nI_succ]
        rw [← e3] at e2
        refine f_fin (hsp _ e2) ?_ rfl
        rw [← e3]
        rfl
      · have h4 : ¬ M.1 1 12 < 4 := h4
        rw [hR.sn] at h4
        have h4 : ¬ s.1.1 0 5 < 4 := fun z => h4 (nI_lt (b := 4) z (by omega))
        rw [if_pos (by omega)] at hsp
        exact hsp M hR
/-! the follower -/
theorem f_acc_le {P : Nat → Bool} {g : Nat → Nat × Nat} {B C : Nat} (h : ∀ x, (g x).1 ≤ B ∧ (g x).2 ≤ C) : ∀ n, (f_acc P g n).1 ≤ n * B ∧ (f_acc P g n).2 ≤ f_cnt n P * C := by
  intro n
  induction n with
  | zero => exact ⟨Nat.zero_le _, Nat.zero_le _⟩
  | succ n ih =>
    have hn := h n
    unfold f_acc
    rw [Nat.succ_mul]
    have ec : f_cnt (n + 1) P = f_cnt n P + (if P n = true then 1 else 0) := rfl
    rw [ec, Nat.add_mul]
    by_cases hp : P n = true
    · rw [if_pos hp, Nat.one_mul]
      split
      · exact ⟨by show _ + _ ≤ _; omega, by show _ + _ ≤ _; omega⟩
      · exact ⟨by omega, by omega⟩
    · have : ¬ (decide (1 ≤ n) && P n) = true := fun z => by
        rw [Bool.and_eq_true] at z
        exact hp z.2
      rw [if_neg this, if_neg hp]
      exact ⟨by omega, by omega⟩
theorem f_cnt_mono {P Q : Nat → Bool} (h : ∀ x, P x = true → Q x = true) : ∀ n, f_cnt n P ≤ f_cnt n Q := by
  intro n
  induction n with
  | zero => exact Nat.le_refl _
  | succ n ih =>
    show f_cnt n P + (if P n = true then 1 else 0) ≤ f_cnt n Q + (if Q n = true then 1 else 0)
    by_cases hp : P n = true
    · rw [if_pos hp, if_pos (h n hp)]; omega
    · rw [if_neg hp]; split <;> omega
theorem f_bo_le (may : Nat → Nat) (W c : Nat) : ∀ (d S q k : Nat), (f_bo may W c d S q k).1 ≤ 17 ^ d ∧ (f_bo may W c d S q k).2 ≤ q := by
  intro d
  induction d with
  | zero =>
    intro S q k
    unfold f_bo
    split
    · split
      · exact ⟨Nat.le_refl _, Nat.le_refl _⟩
      · exact ⟨Nat.zero_le _, Nat.zero_le _⟩
    · exact ⟨Nat.zero_le _, Nat.zero_le _⟩
  | succ d ih =>
    intro S q k
    unfold f_bo
    split
    · split
      · exact ⟨Nat.pow_pos (by decide), Nat.le_refl _⟩
      · exact ⟨Nat.zero_le _, Nat.zero_le _⟩
    · split
      · exact ⟨Nat.zero_le _, Nat.zero_le _⟩
      · rename_i h1 h2
        have h := f_acc_le (P := fun x => (may S &&& W).testBit x) (g := fun x => f_bo may W c d (S ||| 2 ^ x) (q / f_pc (may S)) (k + 1)) (fun x => ih _ _ _) 17
        refine ⟨by rw [Nat.pow_succ, Nat.mul_comm]; exact h.1, Nat.le_trans h.2 ?_⟩
        have hc : f_cnt 17 (fun x => (may S &&& W).testBit x) ≤ f_pc (may S) := f_cnt_mono (fun x hx => by
          rw [Nat.testBit_and, Bool.and_eq_true] at hx
          exact hx.1) 17
        exact Nat.le_trans (Nat.mul_le_mul_right _ hc) (Nat.mul_div_le _ _)
theorem f_fol_le (may : Nat → Nat) (L c : Nat) (a : Nat → Nat) (n : Nat) : (f_fol may L c a n).1 ≤ 4913 ∧ (f_fol may L c a n).2 ≤ f_tot may := by
  unfold f_fol
  split
  · exact f_bo_le may _ c 3 0 _ 0
  · exact ⟨Nat.zero_le _, Nat.zero_le _⟩
theorem f_wt_cg {a b : Nat → Nat} : ∀ n, (∀ i, i < n → a i = b i) → f_wt a n = f_wt b n := by
  intro n
  induction n with
  | zero => intro _; rfl
  | succ n ih =>
    intro h
    unfold f_wt
    rw [ih (fun i hi => h i (by omega)), f_sm_cg (f := a) (g := b) n (fun i hi => h i (by omega))]
theorem f_fol_cg {may : Nat → Nat} {L c : Nat} {a b : Nat → Nat} {n : Nat} (h : ∀ i, i < n → a i = b i) : f_fol may L c a n = f_fol may L c b n := by
  unfold f_fol
  rw [f_wt_cg n h, f_sm_cg n h]
theorem f_RX.fol {s : fSt} {M : fMem} {b : Nat} {R : fR} (hR : f_RX s M) (hS : f_SW s) (hb : b < 6) (hk : ∀ M', f_RX s M' → M'.1 44 5 = nI (f_flw s.1 b).1 → M'.2 44 6 = lN (f_flw s.1 b).2 → M'.1 44 7 = nI (f_fw s.1 b) → R f_GX none M') : S_fol f_GX [.ref 44, .int (nI b), .ref 12, .int (M.1 1 12)] M R := by
  have hsn := hS.sn
  have ec : f_fol (f_mb s.1 b) s.1.2.2.1 s.1.2.2.2.1 (fun i => if i < s.1.1 0 5 then s.1.1 6 i else 1) (s.1.1 0 5) = f_flw s.1 b := f_fol_cg (fun i hi => if_pos hi)
  refine ⟨s.1.2.2.2.2, s.1.2.2.1, b, _, _, _, s.1.2.2.2.1, s.1.1 0 5, fun i => if i < s.1.1 0 5 then s.1.1 6 i else 1, rfl, Or.inl rfl, rfl, hR.sn, hsn, hR.yh hS, hR.bkr hS hb, hR.ct, hS.c3, fun i hi => ?_, fun i => ?_, fun M' he h1 h2 h3 => ?_⟩
  · show _ = nI (if i < s.1.1 0 5 then s.1.1 6 i else 1)
    rw [if_pos hi]
    exact hR.si i (by omega)
  · show 1 ≤ (if i < s.1.1 0 5 then s.1.1 6 i else 1) ∧ (if i < s.1.1 0 5 then s.1.1 6 i else 1) ≤ 17
    split
    · rename_i hi; exact hS.si i hi
    · omega
  · have h1 : M'.1 44 5 = nI (f_fol (f_mb s.1 b) s.1.2.2.1 s.1.2.2.2.1 (fun i => if i < s.1.1 0 5 then s.1.1 6 i else 1) (s.1.1 0 5)).1 := h1
    have h2 : M'.2 44 6 = lN (f_fol (f_mb s.1 b) s.1.2.2.1 s.1.2.2.2.1 (fun i => if i < s.1.1 0 5 then s.1.1 6 i else 1) (s.1.1 0 5)).2 := h2
    rw [ec] at h1 h2
    exact hk M' (hR.scr he (by decide)) h1 h2 h3
set_option maxRecDepth 20000 in
theorem m_x_orders : f_Meets 2 (kX11_orders S_isB S_fol) (f_x1 p_orders) := by
  intro G As M R hsp X hX hW
  match As, hsp with
  | [.ref 0, .int b], ⟨s, hG, hS, hR, hsp⟩ =>
    subst hG
    unfold p_orders at hsp
    refine f_run_ok (stop := fun q => Nat.beq q 10) hX 40 _ _ _ _ _ ?_
    refine ⟨rfl, ?_⟩
    rw [f_ng_b hR]
    cases hb : f_ng b s with
    | false =>
      rw [if_pos hb] at hsp
      exact And.intro (fun _ => hsp M hR) (fun z => absurd rfl z)
    | true =>
      rw [if_neg (by rw [hb]; decide)] at hsp
      obtain ⟨b1, b2, b3⟩ := f_ng_t hS hb
      refine And.intro (fun z => absurd z (by decide)) (fun _ => ?_)
      generalize f_n b = B at *
      subst b3
      refine f_run_ok (stop := fun q => Nat.beq q 32) hX 40 _ _ _ _ _ ?_
      obtain ⟨c1, c2, c3, c4, c5, c6, c7, c8, c9, c10, c11, c12, c13, c14, c15, c16, c17, c18, c19, c20, c21⟩ := hR.fol (R := fun G' v M' => X G' 32 [some (.ref 0), some (.int (nI B))] (f_ans v []) M') hS b2 (fun M1 r1 h1 h2 h3 => by
        refine f_run_ok (stop := fun q => false) hX 40 _ _ _ _ _ ?_
        exact f_fin (hsp M1 r1) (congrArg (fun z => some (Value.int z)) h1.symm) rfl)
      exact ⟨c1, c2, c3, c4, c5, c6, c7, c8, c9, c10, c11, c12, c13, c14, c15, c16, c17, c18, c19, c20, c21⟩
set_option maxRecDepth 20000 in
theorem m_x_chance : f_Meets 3 (kX11_chance S_isB S_isP S_fol S_partOf) (f_x2 p_chance) := by
  intro G As M R hsp X hX hW
  match As, hsp with
  | [.ref 0, .int b, .int p], ⟨s, hG, hS, hR, hsp⟩ =>
    subst hG
    unfold p_chance at hsp
    have bad : (f_ng b s = false ∨ f_pt1 p = false) → X f_GX 15 [some (.ref 0), some (.int b), some (.int p)] [] M := by
      intro h
      rw [if_pos h] at hsp
      exact f_run_ok (stop := fun _ => false) hX 10 _ _ _ _ _ (hsp M hR)
    refine f_run_ok (stop := fun q => Nat.beq q 15 || Nat.beq q 19) hX 40 _ _ _ _ _ ?_
    refine ⟨rfl, ?_⟩
    rw [f_ng_b hR]
    cases hb : f_ng b s with
    | false => exact And.intro (fun _ => bad (Or.inl hb)) (fun z => absurd rfl z)
    | true =>
      obtain ⟨b1, b2, b3⟩ := f_ng_t hS hb
      refine And.intro (fun z => absurd z (by decide)) (fun _ => ?_)
      refine And.intro (fun hz => bad (Or.inr ((f_b0 (c := f_pt1 p)).mp hz))) (fun hz => ?_)
      have hp : f_pt1 p = true := f_b_nt (c := f_pt1 p) hz
      rw [if_neg (by rw [hb, hp]; exact fun z => z.elim (by decide) (by decide))] at hsp
      clear bad
      generalize f_n b = B at *
      subst b3
      refine f_run_ok (stop := fun q => Nat.beq q 41) hX 40 _ _ _ _ _ ?_
      obtain ⟨c1, c2, c3, c4, c5, c6, c7, c8, c9, c10, c11, c12, c13, c14, c15, c16, c17, c18, c19, c20, c21⟩ := hR.fol (R := fun G' v M' => X G' 41 [some (.ref 0), some (.int (nI B)), some (.int p)] (f_ans v []) M') hS b2 (fun M1 r1 h1 h2 h3 => by
        have hpc : f_pc (f_mb s.1 B 0) ≤ 17 := f_cnt_le _ 17
        have hfw : f_fw s.1 B ≤ 17 := by unfold f_fw; omega
        refine f_run_ok (stop := fun q => Nat.beq q 48) hX 40 _ _ _ _ _ ?_
        show X f_GX 48 [some (.ref 0), some (.int (nI B)), some (.int p)] [.long (M1.2 44 6)] M1
        rw [h2]
        refine f_run_ok (stop := fun q => Nat.beq q 60) hX 40 _ _ _ _ _ ?_
        have ht := f_tot_b (c := s.1) (b := B)
        have hl := (f_fol_le (f_mb s.1 B) s.1.2.2.1 s.1.2.2.2.1 (s.1.1 6) (s.1.1 0 5)).2
        have hl : (f_flw s.1 B).2 ≤ f_tot (f_mb s.1 B) := hl
        have em : (129859329600 : Int64) * (M1.1 44 7).toInt64 = lN (f_tot (f_mb s.1 B)) := by
          rw [h3, f_wide (by omega)]
          exact (Int64.ofNat_mul f_U (f_fw s.1 B)).symm
        show X f_GX 60 [some (.ref 0), some (.int (nI B)), some (.int p)] [.long ((129859329600 : Int64) * (M1.1 44 7).toInt64), .long (lN (f_flw s.1 B).2)] M1
        rw [em]
        refine f_run_ok (stop := fun q => false) hX 40 _ _ _ _ _ ?_
        obtain ⟨y1, y2, y3⟩ := f_pof (p := p) (R := R) (u := (f_flw s.1 B).2) (v := f_tot (f_mb s.1 B)) (by unfold f_U at ht; omega) ht.1 (by unfold f_U at ht; omega) (hsp M1 r1)
        exact ⟨y1, y2, y3⟩)
      exact ⟨c1, c2, c3, c4, c5, c6, c7, c8, c9, c10, c11, c12, c13, c14, c15, c16, c17, c18, c19, c20, c21⟩
