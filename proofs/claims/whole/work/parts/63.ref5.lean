/-! ===== the reference: lowest terms, all, triangles, drawn ===== -/
theorem m_lw : f_Meets 11 kX12_lowest S_partOf := by
  intro G As M R hsp X hX hW
  match As, hsp with
  | [.long x, .long z, .int p], ⟨hx, hz, hsp⟩ =>
    obtain ⟨u1, u2⟩ := f_lNat hx
    obtain ⟨v1, v2⟩ := f_lNat (Int.le_of_lt hz)
    have vp : 0 < z.toInt.toNat := by omega
    generalize hu : x.toInt.toNat = u at hsp u1 u2
    generalize hv : z.toInt.toNat = v at hsp v1 v2 vp
    have fin : ∀ (d r : Nat) (o1 o2 : Option Value), d < 2 ^ 63 → d = Nat.gcd u v → X G 31 [some (.long x), none, some (.long z), none, some (.int p), some (.long (lN d)), none, some (.long (lN r)), none, o1, o2] [] M := by
      intro d r o1 o2 hd he
      have hd0 : 0 < d := by rw [he]; exact Nat.gcd_pos_of_pos_right _ vp
      refine f_run_ok (stop := fun q => false) hX 30 _ _ _ _ _ ?_
      refine And.intro (fun h2 => ?_) (fun h2 => ?_)
      · refine And.intro (f_l0 hd0 hd) ?_
        refine f_fin hsp ?_ rfl
        have h2 : p = 0 := h2
        show _ = some (Value.long (x / lN d))
        rw [← u2, pk_lDiv u1 hd0 hd]
        simp [f_part, h2, he]
      · refine And.intro (f_l0 hd0 hd) ?_
        refine f_fin hsp ?_ rfl
        have h2 : ¬ p = 0 := h2
        show _ = some (Value.long (z / lN d))
        rw [← v2, pk_lDiv v1 hd0 hd]
        simp [f_part, h2, he]
    have loop : ∀ n (a b : Nat) (o1 o2 : Option Value), a < 2 ^ 63 → b < 2 ^ 63 → b ≤ n → Nat.gcd a b = Nat.gcd u v → X G 6 [some (.long x), none, some (.long z), none, some (.int p), some (.long (lN a)), none, some (.long (lN b)), none, o1, o2] [] M := by
      have step : ∀ (a b : Nat) (o1 o2 : Option Value), a < 2 ^ 63 → b < 2 ^ 63 → Nat.gcd a b = Nat.gcd u v → (0 < b → ∀ o1 o2, X G 6 [some (.long x), none, some (.long z), none, some (.int p), some (.long (lN b)), none, some (.long (lN (a % b))), none, o1, o2] [] M) → X G 6 [some (.long x), none, some (.long z), none, some (.int p), some (.long (lN a)), none, some (.long (lN b)), none, o1, o2] [] M := by
        intro a b o1 o2 ha hb hg hk
        refine f_run_ok (stop := fun q => Nat.beq q 6 || Nat.beq q 31) hX 40 _ _ _ _ _ ?_
        refine And.intro (fun h2 => ?_) (fun h2 => ?_)
        · have h2 := (f_lc0 hb).mp h2
          exact fin a b o1 o2 ha (by rw [← hg, h2, Nat.gcd_zero_right])
        · have hb0 : 0 < b := by
            rcases Nat.eq_zero_or_pos b with q | q
            · exact absurd ((f_lc0 hb).mpr q) h2
            · exact q
          refine And.intro (f_l0 hb0 hb) ?_
          have := hk hb0 (some (.long (lN (a % b)))) none
          show X G 6 [some (.long x), none, some (.long z), none, some (.int p), some (.long (lN b)), none, some (.long (lN a - lN a / lN b * lN b)), none, some (.long (lN a - lN a / lN b * lN b)), none] [] M
          rw [f_lrem ha hb0 hb]
          exact this
      intro n
      induction n with
      | zero =>
        intro a b o1 o2 ha hb hn hg
        exact step a b o1 o2 ha hb hg (fun h => by omega)
      | succ n ih =>
        intro a b o1 o2 ha hb hn hg
        refine step a b o1 o2 ha hb hg (fun h o1 o2 => ?_)
        have hm : a % b < b := Nat.mod_lt _ h
        refine ih b (a % b) o1 o2 hb (by omega) (by omega) ?_
        rw [← hg, Nat.gcd_comm a b, Nat.gcd_rec b a, Nat.gcd_comm]
    refine f_run_ok (stop := fun q => Nat.beq q 6) hX 20 _ _ _ _ _ ?_
    have := loop v u v none none u1 v1 (Nat.le_refl _) rfl
    rw [u2, v2] at this
    exact this
def f_pO (k : Nat) : Nat := if k = 0 then 720720 else 360360
def S_pO : fSp := fun G As M R => match As with
  | [.int z] => ∃ k : Nat, z = nI k ∧ k < 2 ^ 31 ∧ R G (some (.long (lN (f_pO k)))) M
  | _ => False
theorem m_pO : f_Meets 1 kX12_partsOf S_pO := by
  intro G As M R hsp X hX hW
  match As, hsp with
  | [.int z], ⟨k, hz, hk, hsp⟩ =>
    subst hz
    refine f_run_ok (stop := fun q => false) hX 20 _ _ _ _ _ ?_
    refine And.intro (fun h => ?_) (fun h => ?_)
    · have h := (nI_eq (b := 0) hk (by omega)).mp h
      subst h
      exact hsp
    · have h : ¬ k = 0 := fun z => h (by rw [z]; rfl)
      unfold f_pO at hsp
      rw [if_neg h] at hsp
      exact hsp
/-- all weights together, of so many breaks -/
def f_alp : Nat → Nat
  | 0 => 1
  | k + 1 => f_alp k * f_pO k
def S_all : fSp := fun G As M R => match As with
  | [.ref 100] => ∃ y : fYd, G = f_GM ∧ f_HR 101 y M ∧ y.2.1 ≤ 3 ∧ R G (some (.long (lN (f_alp y.2.1)))) M
  | _ => False
set_option maxRecDepth 20000 in
theorem m_all : f_Meets 4 (kX12_all S_cu S_pO) S_all := by
  intro G As M R hsp X hX hW
  match As, hsp with
  | [.ref 100], ⟨y, hG, hH, hc, hsp⟩ =>
    subst hG
    have loop : ∀ t j, j + t = y.2.1 → X f_GM 4 [some (.ref 100), some (.long (lN (f_alp j))), none, some (.int (nI j))] [] M := by
      intro t
      induction t with
      | zero =>
        intro j hj
        have hj : j = y.2.1 := by omega
        subst hj
        refine f_run_ok (stop := fun q => false) hX 20 _ _ _ _ _ ?_
        exact ⟨y, rfl, hH, And.intro (fun _ => hsp) (fun z => absurd (nI_le (Nat.le_refl _) (by omega)) z)⟩
      | succ t ih =>
        intro j hj
        have q := ih (j + 1) (by omega)
        have e : lN (f_alp (j + 1)) = lN (f_alp j) * lN (f_pO j) := Int64.ofNat_mul _ _
        rw [e, nI_succ j] at q
        refine f_run_ok (stop := fun q => Nat.beq q 4) hX 20 _ _ _ _ _ ?_
        refine ⟨y, rfl, hH, And.intro (fun z => absurd ((nI_leI (by omega) (by omega)).mp z) (by omega)) (fun _ => ?_)⟩
        exact ⟨j, rfl, by omega, q⟩
    refine f_run_ok (stop := fun q => Nat.beq q 4) hX 20 _ _ _ _ _ ?_
    exact loop y.2.1 0 (by omega)
/-! triangles -/
def S_tri : fSp := fun G As M R => match As with
  | [.ref 100, .int za, .int zn, .int zs] => ∃ (n : Nat) (g : Nat → Nat), G = f_GM ∧ za = 45 ∧ zs = 1023 ∧ zn = nI n ∧ n ≤ 10 ∧ (∀ i, i < n → M.1 101 (45 + i) = nI (g i) ∧ g i < 1000) ∧ R G (some (.int (nI (f_tri g n)))) M
  | _ => False
theorem f_1023 : ∀ i, i < 10 → ∀ j, j < 10 → ∀ k, k < 10 → ((1023 : Int32) >>> (nI i &&& 31)) &&& ((1023 : Int32) >>> (nI j &&& 31)) &&& ((1023 : Int32) >>> (nI k &&& 31)) &&& 1 = 1 := by decide +kernel
theorem f_add0 (z : Int32) : z + 0 = z := by
  refine Int32.toBitVec_inj.mp ?_
  simp
set_option maxRecDepth 20000 in
theorem m_tri : f_Meets 9 (kX12_closing S_closing) S_tri := by
  intro G As M R hsp X hX hW
  match As, hsp with
  | [.ref 100, .int za, .int zn, .int zs], ⟨n, g, hG, hza, hzs, hz, hn, hg, hsp⟩ =>
    subst hG; subst hz; subst hza; subst hzs
    have l3 : ∀ (i j A : Nat) (K : ∀ u, X f_GM 117 [some (.ref 100), some (.int 45), some (.int (nI n)), some (.int 1023), some (.int (nI (A + f_t1 g i j n))), some (.int (nI i)), some (.int (nI j)), some (.int (nI n)), u] [] M), i < n → j < n → ∀ d k u, d + k = n → j < k → X f_GM 30 [some (.ref 100), some (.int 45), some (.int (nI n)), some (.int 1023), some (.int (nI (A + f_t1 g i j k))), some (.int (nI i)), some (.int (nI j)), some (.int (nI k)), u] [] M := by
      intro i j A K hi hj d
      induction d with
      | zero =>
        intro k u hk hjk
        have hk : k = n := by omega
        subst hk
        refine f_run_ok (stop := fun q => Nat.beq q 117) hX 10 _ _ _ _ _ ?_
        exact And.intro (fun h => K u) (fun h => absurd (nI_le (Nat.le_refl k) (by omega)) h)
      | succ d ih =>
        intro k u hk hjk
        have hv : f_t1 g i j (k + 1) = f_t1 g i j k + (if j < k ∧ f_clz (g i) (g j) (g k) = true then 1 else 0) := rfl
        have rdx : ∀ x, x < n → vp_in (45 + nI x) 906 ∧ M.1 101 (45 + nI x).toNatClampNeg = nI (g x) := fun x hx => by
          obtain ⟨a, b⟩ := f_ix (n := 906) (show 45 + nI x = nI (45 + x) from nI_add 45 x) (by omega) (by omega)
          exact ⟨a, by rw [b]; exact (hg x hx).1⟩
        refine f_run_ok (stop := fun q => Nat.beq q 30) hX 60 _ _ _ _ _ ?_
        refine And.intro (fun h => absurd ((nI_leI (by omega) (by omega)).mp h) (by omega)) (fun h => ?_)
        refine And.intro (fun _ => ?_) (fun z => absurd (f_1023 i (by omega) j (by omega) k (by omega)) z)
        refine And.intro (fun z => absurd z (by decide)) (fun _ => ?_)
        refine And.intro (rdx i hi).1 (And.intro (rdx j hj).1 (And.intro (rdx k (by omega)).1 ⟨g i, g j, g k, (rdx i hi).2, (rdx j hj).2, (rdx k (by omega)).2, (hg i hi).2, (hg j hj).2, (hg k (by omega)).2, ?_⟩))
        refine And.intro (fun h2 => ?_) (fun h2 => ?_)
        · have h2 := f_b0.mp h2
          have q := ih (k + 1) (some (.int 1)) (by omega) (by omega)
          rw [hv, if_neg (fun z => by rw [h2] at z; exact absurd z.2 (by decide)), Nat.add_zero, nI_succ] at q
          rw [← f_add0 (nI (A + f_t1 g i j k))] at q
          exact q
        · have h2 := f_b_nt h2
          have q := ih (k + 1) (some (.int 1)) (by omega) (by omega)
          rw [hv, if_pos ⟨hjk, h2⟩, ← Nat.add_assoc, nI_succ, nI_succ] at q
          exact q
    have l2 : ∀ (i A : Nat) (K : ∀ u5 u, X f_GM 123 [some (.ref 100), some (.int 45), some (.int (nI n)), some (.int 1023), some (.int (nI (A + f_t2 g i n n))), some (.int (nI i)), some (.int (nI n)), u5, u] [] M), i < n → ∀ d j u5 u, d + j = n → i < j → X f_GM 18 [some (.ref 100), some (.int 45), some (.int (nI n)), some (.int 1023), some (.int (nI (A + f_t2 g i n j))), some (.int (nI i)), some (.int (nI j)), u5, u] [] M := by
      intro i A K hi d
      induction d with
      | zero =>
        intro j u5 u hj hij
        have hj : j = n := by omega
        subst hj
        refine f_run_ok (stop := fun q => Nat.beq q 123) hX 10 _ _ _ _ _ ?_
        exact And.intro (fun h => K u5 u) (fun h => absurd (nI_le (Nat.le_refl j) (by omega)) h)
      | succ d ih =>
        intro j u5 u hj hij
        have hv : f_t2 g i n (j + 1) = f_t2 g i n j + f_t1 g i j n := by
          show f_t2 g i n j + (if i < j then f_t1 g i j n else 0) = _
          rw [if_pos hij]
        have z1 : f_t1 g i j (j + 1) = 0 := f_sm_z _ (fun x hx => if_neg (fun q => by omega))
        refine f_run_ok (stop := fun q => Nat.beq q 30) hX 20 _ _ _ _ _ ?_
        refine And.intro (fun h => absurd ((nI_leI (by omega) (by omega)).mp h) (by omega)) (fun h => ?_)
        have q := l3 i j (A + f_t2 g i n j) (fun u => by
          refine f_run_ok (stop := fun q => Nat.beq q 18) hX 10 _ _ _ _ _ ?_
          have q := ih (j + 1) (some (.int (nI n))) u (by omega) (by omega)
          rw [hv, ← Nat.add_assoc, nI_succ] at q
          exact q) hi (by omega) (n - (j + 1)) (j + 1) u (by omega) (by omega)
        rw [z1, Nat.add_zero, nI_succ] at q
        exact q
    have l1 : ∀ d i u4 u5 u, d + i = n → X f_GM 6 [some (.ref 100), some (.int 45), some (.int (nI n)), some (.int 1023), some (.int (nI (f_sm i (fun i => f_t2 g i n n)))), some (.int (nI i)), u4, u5, u] [] M := by
      intro d
      induction d with
      | zero =>
        intro i u4 u5 u hi
        have hi : i = n := by omega
        subst hi
        refine f_run_ok (stop := fun q => false) hX 10 _ _ _ _ _ ?_
        exact And.intro (fun h => hsp) (fun h => absurd (nI_le (Nat.le_refl i) (by omega)) h)
      | succ d ih =>
        intro i u4 u5 u hi
        have hv : f_sm (i + 1) (fun i => f_t2 g i n n) = f_sm i (fun i => f_t2 g i n n) + f_t2 g i n n := rfl
        have z1 : f_t2 g i n (i + 1) = 0 := f_sm_z _ (fun x hx => if_neg (fun q => by omega))
        refine f_run_ok (stop := fun q => Nat.beq q 18) hX 20 _ _ _ _ _ ?_
        refine And.intro (fun h => absurd ((nI_leI (by omega) (by omega)).mp h) (by omega)) (fun h => ?_)
        have q := l2 i (f_sm i (fun i => f_t2 g i n n)) (fun u5 u => by
          refine f_run_ok (stop := fun q => Nat.beq q 6) hX 10 _ _ _ _ _ ?_
          have q := ih (i + 1) (some (.int (nI n))) u5 u (by omega)
          rw [hv, nI_succ] at q
          exact q) (by omega) (n - (i + 1)) (i + 1) u5 u (by omega) (by omega)
        rw [z1, Nat.add_zero, nI_succ] at q
        exact q
    refine f_run_ok (stop := fun q => Nat.beq q 6) hX 20 _ _ _ _ _ ?_
    exact l1 n 0 none none (none : Option Value) (by omega)
def S_st3 : fSp := fun G As M R => match As with
  | [.ref 100, .int zn] => ∃ (n : Nat) (g : Nat → Nat), G = f_GM ∧ zn = nI n ∧ n ≤ 6 ∧ (∀ i, i < n → M.1 114 i = nI (g i) ∧ g i < 1000) ∧ R G (some (.int (nI (f_tri g n)))) M
  | _ => False
set_option maxRecDepth 20000 in
theorem m_st3 : f_Meets 6 (kX12_sawTriangles S_closing) S_st3 := by
  intro G As M R hsp X hX hW
  match As, hsp with
  | [.ref 100, .int zn], ⟨n, g, hG, hz, hn, hg, hsp⟩ =>
    subst hG; subst hz
    have l3 : ∀ (i j A : Nat) (K : ∀ u : Nat, X f_GM 72 [some (.ref 100), some (.int (nI n)), some (.int (nI (A + f_t1 g i j n))), some (.int (nI i)), some (.int (nI j)), some (.int (nI n))] [] M), i < n → j < n → ∀ d k (u : Nat), d + k = n → j < k → X f_GM 26 [some (.ref 100), some (.int (nI n)), some (.int (nI (A + f_t1 g i j k))), some (.int (nI i)), some (.int (nI j)), some (.int (nI k))] [] M := by
      intro i j A K hi hj d
      induction d with
      | zero =>
        intro k u hk hjk
        have hk : k = n := by omega
        subst hk
        refine f_run_ok (stop := fun q => Nat.beq q 72) hX 10 _ _ _ _ _ ?_
        exact And.intro (fun h => K u) (fun h => absurd (nI_le (Nat.le_refl k) (by omega)) h)
      | succ d ih =>
        intro k u hk hjk
        have hv : f_t1 g i j (k + 1) = f_t1 g i j k + (if j < k ∧ f_clz (g i) (g j) (g k) = true then 1 else 0) := rfl
        have rdx : ∀ x, x < n → vp_in (nI x) 6 ∧ M.1 114 (nI x).toNatClampNeg = nI (g x) := fun x hx => by
          obtain ⟨a, b⟩ := f_ix (n := 6) (z := nI x) rfl (by omega) (by omega)
          exact ⟨a, by rw [b]; exact (hg x hx).1⟩
        refine f_run_ok (stop := fun q => Nat.beq q 26) hX 60 _ _ _ _ _ ?_
        refine And.intro (fun h => absurd ((nI_leI (by omega) (by omega)).mp h) (by omega)) (fun h => ?_)
        refine And.intro (rdx i hi).1 (And.intro (rdx j hj).1 (And.intro (rdx k (by omega)).1 ⟨g i, g j, g k, (rdx i hi).2, (rdx j hj).2, (rdx k (by omega)).2, (hg i hi).2, (hg j hj).2, (hg k (by omega)).2, ?_⟩))
        refine And.intro (fun h2 => ?_) (fun h2 => ?_)
        · have h2 := f_b0.mp h2
          have q := ih (k + 1) 0 (by omega) (by omega)
          rw [hv, if_neg (fun z => by rw [h2] at z; exact absurd z.2 (by decide)), Nat.add_zero, nI_succ] at q
          rw [← f_add0 (nI (A + f_t1 g i j k))] at q
          exact q
        · have h2 := f_b_nt h2
          have q := ih (k + 1) 0 (by omega) (by omega)
          rw [hv, if_pos ⟨hjk, h2⟩, ← Nat.add_assoc, nI_succ, nI_succ] at q
          exact q
    have l2 : ∀ (i A : Nat) (K : ∀ u5 (u : Nat), X f_GM 78 [some (.ref 100), some (.int (nI n)), some (.int (nI (A + f_t2 g i n n))), some (.int (nI i)), some (.int (nI n)), u5] [] M), i < n → ∀ d j u5 (u : Nat), d + j = n → i < j → X f_GM 14 [some (.ref 100), some (.int (nI n)), some (.int (nI (A + f_t2 g i n j))), some (.int (nI i)), some (.int (nI j)), u5] [] M := by
      intro i A K hi d
      induction d with
      | zero =>
        intro j u5 u hj hij
        have hj : j = n := by omega
        subst hj
        refine f_run_ok (stop := fun q => Nat.beq q 78) hX 10 _ _ _ _ _ ?_
        exact And.intro (fun h => K u5 u) (fun h => absurd (nI_le (Nat.le_refl j) (by omega)) h)
      | succ d ih =>
        intro j u5 u hj hij
        have hv : f_t2 g i n (j + 1) = f_t2 g i n j + f_t1 g i j n := by
          show f_t2 g i n j + (if i < j then f_t1 g i j n else 0) = _
          rw [if_pos hij]
        have z1 : f_t1 g i j (j + 1) = 0 := f_sm_z _ (fun x hx => if_neg (fun q => by omega))
        refine f_run_ok (stop := fun q => Nat.beq q 26) hX 20 _ _ _ _ _ ?_
        refine And.intro (fun h => absurd ((nI_leI (by omega) (by omega)).mp h) (by omega)) (fun h => ?_)
        have q := l3 i j (A + f_t2 g i n j) (fun u => by
          refine f_run_ok (stop := fun q => Nat.beq q 14) hX 10 _ _ _ _ _ ?_
          have q := ih (j + 1) (some (.int (nI n))) u (by omega) (by omega)
          rw [hv, ← Nat.add_assoc, nI_succ] at q
          exact q) hi (by omega) (n - (j + 1)) (j + 1) u (by omega) (by omega)
        rw [z1, Nat.add_zero, nI_succ] at q
        exact q
    have l1 : ∀ d i u4 u5 (u : Nat), d + i = n → X f_GM 4 [some (.ref 100), some (.int (nI n)), some (.int (nI (f_sm i (fun i => f_t2 g i n n)))), some (.int (nI i)), u4, u5] [] M := by
      intro d
      induction d with
      | zero =>
        intro i u4 u5 u hi
        have hi : i = n := by omega
        subst hi
        refine f_run_ok (stop := fun q => false) hX 10 _ _ _ _ _ ?_
        exact And.intro (fun h => hsp) (fun h => absurd (nI_le (Nat.le_refl i) (by omega)) h)
      | succ d ih =>
        intro i u4 u5 u hi
        have hv : f_sm (i + 1) (fun i => f_t2 g i n n) = f_sm i (fun i => f_t2 g i n n) + f_t2 g i n n := rfl
        have z1 : f_t2 g i n (i + 1) = 0 := f_sm_z _ (fun x hx => if_neg (fun q => by omega))
        refine f_run_ok (stop := fun q => Nat.beq q 14) hX 20 _ _ _ _ _ ?_
        refine And.intro (fun h => absurd ((nI_leI (by omega) (by omega)).mp h) (by omega)) (fun h => ?_)
        have q := l2 i (f_sm i (fun i => f_t2 g i n n)) (fun u5 u => by
          refine f_run_ok (stop := fun q => Nat.beq q 4) hX 10 _ _ _ _ _ ?_
          have q := ih (i + 1) (some (.int (nI n))) u5 u (by omega)
          rw [hv, nI_succ] at q
          exact q) (by omega) (n - (i + 1)) (i + 1) u5 u (by omega) (by omega)
        rw [z1, Nat.add_zero, nI_succ] at q
        exact q
    refine f_run_ok (stop := fun q => Nat.beq q 4) hX 20 _ _ _ _ _ ?_
    exact l1 n 0 none none 0 (by omega)
set_option maxRecDepth 20000 in
theorem m_y_triangles : f_Meets 1 (kX12_triangles S_tri) (f_y0 p_triangles) := by
  intro G As M R hsp X hX hW
  match As, hsp with
  | [.ref 100], ⟨s, hG, hS, hR, hsp⟩ =>
    subst hG
    have hbx := hS.bx
    refine f_run_ok (stop := fun q => false) hX 40 _ _ _ _ _ ?_
    exact And.intro (v9 2 (by decide)) ⟨s.1.1 0 4, s.1.1 5, rfl, rfl, rfl, hR.bx, hbx, fun i hi => ⟨hR.bo i (by omega), by have := hS.bo i hi; omega⟩, hsp M hR⟩
set_option maxRecDepth 20000 in
theorem m_y_drawn : f_Meets 4 (kX12_drawn S_in (f_y0 p_triangles) S_partOf) (f_y1 p_drawn) := by
  intro G As M R hsp X hX hW
  match As, hsp with
  | [.ref 100, .int p], ⟨s, hG, hS, hR, hsp⟩ =>
    subst hG
    unfold p_drawn at hsp
    have hbx := hS.bx
    have hM := hR.bx
    have htl := f_tri_le (s.1.1 5) (s.1.1 0 4)
    have bad : (s.1.1 0 4 < 3 ∨ f_pt1 p = false) → X f_GM 25 [some (.ref 100), some (.int p), some (.long (lN (s.1.1 0 4))), none] [] M := by
      intro h
      rw [if_pos h] at hsp
      exact f_run_ok (stop := fun _ => false) hX 10 _ _ _ _ _ (hsp M hR)
    refine f_run_ok (stop := fun q => Nat.beq q 8) hX 40 _ _ _ _ _ ?_
    refine And.intro (v9 2 (by decide)) ?_
    show X f_GM 8 [some (.ref 100), some (.int p), some (.long (M.1 101 2).toInt64), none] [] M
    rw [hM, f_wide (by omega)]
    have lc : lg_cmp (lN (s.1.1 0 4)) 3 < 0 ↔ s.1.1 0 4 < 3 := by
      have : ∀ n, n ≤ 10 → (lg_cmp (lN n) 3 < 0 ↔ n < 3) := by decide +kernel
      exact this _ hbx
    refine f_run_ok (stop := fun q => Nat.beq q 25 || Nat.beq q 31) hX 40 _ _ _ _ _ ?_
    refine And.intro (fun h => bad (Or.inl (lc.mp h))) (fun h => ?_)
    have h3 : ¬ s.1.1 0 4 < 3 := fun z => h (lc.mpr z)
    have pt : f_pt1 p = decide (0 ≤ p ∧ p ≤ 1) := by
      unfold f_pt1
      refine decide_eq_decide.mpr ⟨fun z => ?_, fun z => ?_⟩
      · rcases z with z | z <;> (rw [z]; decide)
      · obtain ⟨P, hPb, rfl⟩ := nI_of (x := p) (Int32.not_lt.mpr z.1)
        have := (nI_leI (b := 1) hPb (by omega)).mp z.2
        have : P = 0 ∨ P = 1 := by omega
        rcases this with rfl | rfl
        · exact Or.inl rfl
        · exact Or.inr rfl
    refine And.intro (fun hz => ?_) (fun hz => ?_)
    · have hz : f_b (decide (0 ≤ p ∧ p ≤ 1)) = 0 := hz
      rw [← pt] at hz
      exact bad (Or.inr (f_b0.mp hz))
    have hz : ¬ f_b (decide (0 ≤ p ∧ p ≤ 1)) = 0 := hz
    rw [← pt] at hz
    have hp : f_pt1 p = true := f_b_nt hz
    rw [if_neg (by rw [hp]; exact fun z => z.elim h3 (by decide))] at hsp
    clear bad
    refine f_run_ok (stop := fun q => Nat.beq q 35) hX 40 _ _ _ _ _ ?_
    refine ⟨s, rfl, hS, hR, fun M1 r1 => ?_⟩
    have r1 : f_RM s M1 := r1
    show X f_GM 35 [some (.ref 100), some (.int p), some (.long (lN (s.1.1 0 4))), none] [.int (nI (f_tri (s.1.1 5) (s.1.1 0 4)))] M1
    generalize s.1.1 0 4 = N at *
    obtain ⟨m, rfl⟩ : ∃ m, N = m + 3 := ⟨N - 3, by omega⟩
    have t1 : (m + 3) * ((m + 3) * (m + 3)) ≤ 10 * (10 * 10) := Nat.mul_le_mul (by omega) (Nat.mul_le_mul (by omega) (by omega))
    have t2 : (m + 3) * (m + 3 - 1) * (m + 3 - 2) ≤ 10 * 9 * 8 := Nat.mul_le_mul (Nat.mul_le_mul (by omega) (by omega)) (by omega)
    have t3 : 3 * 2 * 1 ≤ (m + 3) * (m + 3 - 1) * (m + 3 - 2) := Nat.mul_le_mul (Nat.mul_le_mul (by omega) (by omega)) (by omega)
    have e1 : (nI (f_tri (s.1.1 5) (m + 3))).toInt64 = lN (f_tri (s.1.1 5) (m + 3)) := f_wide (by omega)
    have e3 : lN (m + 3) * (lN (m + 3) - 1) * (lN (m + 3) - 2) / 6 = lN ((m + 3) * (m + 3 - 1) * (m + 3 - 2) / 6) := by
      have : ∀ k, k ≤ 7 → lN (k + 3) * (lN (k + 3) - 1) * (lN (k + 3) - 2) / 6 = lN ((k + 3) * (k + 3 - 1) * (k + 3 - 2) / 6) := by decide +kernel
      exact this m (by omega)
    obtain ⟨y1, y2, y3⟩ := f_pof (p := p) (R := R) (u := f_tri (s.1.1 5) (m + 3)) (v := (m + 3) * (m + 3 - 1) * (m + 3 - 2) / 6) (by omega) (by omega) (by omega) (hsp M1 r1)
    rw [← e1, ← e3] at *
    refine f_run_ok (stop := fun q => false) hX 40 _ _ _ _ _ ?_
    exact ⟨by decide, y1, y2, y3⟩
