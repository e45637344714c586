/-! ===== none: the class's set and the reference's are the same ===== -/
/-- no three of the set close -/
def f_FR (g : Nat → Nat) (n S : Nat) : Prop := ∀ i j k, i < j → j < k → k < n → S.testBit i = true → S.testBit j = true → S.testBit k = true → f_clz (g i) (g j) (g k) = false
/-- st tells the best of the sets V -/
def f_IV (V : Nat → Prop) (st : Nat × Nat) : Prop := (st = (0, 0) ∧ ∀ s, ¬ V s) ∨ (st.1 = f_pc st.2 + 1 ∧ V st.2 ∧ ∀ s, V s → f_pc s < f_pc st.2 ∨ (f_pc s = f_pc st.2 ∧ st.2 ≤ s))
theorem f_IV.cg {V W : Nat → Prop} {st : Nat × Nat} (h : f_IV V st) (e : ∀ s, V s ↔ W s) : f_IV W st := by
  rcases h with ⟨a, b⟩ | ⟨a, b, c⟩
  · exact Or.inl ⟨a, fun s z => b s ((e s).mpr z)⟩
  · exact Or.inr ⟨a, (e _).mp b, fun s z => c s ((e s).mpr z)⟩
theorem f_fb_t {S : Nat} {st : Nat × Nat} (h : st.1 ≤ f_pc S) : f_fb S st = (f_pc S + 1, S) := by
  unfold f_fb
  rw [if_pos h, if_pos (Or.inl h)]
theorem f_fb_e {S : Nat} {st : Nat × Nat} (h : ¬ st.1 ≤ f_pc S) (h2 : st.1 = f_pc S + 1 ∧ S < st.2) : f_fb S st = (st.1, S) := by
  unfold f_fb
  rw [if_neg h, if_pos (Or.inr h2)]
theorem f_fb_k {S : Nat} {st : Nat × Nat} (h : ¬ st.1 ≤ f_pc S) (h2 : ¬ (st.1 = f_pc S + 1 ∧ S < st.2)) : f_fb S st = st := by
  unfold f_fb
  rw [if_neg h, if_neg (fun z => z.elim h h2)]
theorem f_IV.add {V : Nat → Prop} {st : Nat × Nat} (h : f_IV V st) (S : Nat) : f_IV (fun s => V s ∨ s = S) (f_fb S st) := by
  rcases h with ⟨a, b⟩ | ⟨a, b, c⟩
  · rw [f_fb_t (by rw [a]; exact Nat.zero_le _)]
    refine Or.inr ⟨rfl, Or.inr rfl, fun s hs => ?_⟩
    rcases hs with hs | hs
    · exact absurd hs (b s)
    · rw [hs]; exact Or.inr ⟨rfl, Nat.le_refl _⟩
  · by_cases h1 : st.1 ≤ f_pc S
    · rw [f_fb_t h1]
      refine Or.inr ⟨rfl, Or.inr rfl, fun s hs => ?_⟩
      rcases hs with hs | hs
      · have := c s hs
        exact Or.inl (show f_pc s < f_pc S by omega)
      · rw [hs]; exact Or.inr ⟨rfl, Nat.le_refl _⟩
    · by_cases h2 : st.1 = f_pc S + 1 ∧ S < st.2
      · rw [f_fb_e h1 h2]
        refine Or.inr ⟨h2.1, Or.inr rfl, fun s hs => ?_⟩
        show f_pc s < f_pc S ∨ (f_pc s = f_pc S ∧ S ≤ s)
        rcases hs with hs | hs
        · have := c s hs; omega
        · rw [hs]; exact Or.inr ⟨rfl, Nat.le_refl _⟩
      · rw [f_fb_k h1 h2]
        refine Or.inr ⟨a, Or.inl b, fun s hs => ?_⟩
        rcases hs with hs | hs
        · exact c s hs
        · rw [hs]; omega
theorem f_ifr_no {g : Nat → Nat} {S k n s : Nat} (hk : k < n) (h : f_ifr g S k = false) (hs : f_FR g n s) (hb : s.testBit k = true) (hl : ∀ i, i < k → s.testBit i = S.testBit i) : False := by
  have h := of_decide_eq_false h
  refine h (fun i hi j hj q => ?_)
  exact hs i j k q.1 hj hk (by rw [hl i hi]; exact q.2.1) (by rw [hl j hj]; exact q.2.2) hb
theorem f_mod_bit {s k i : Nat} (h : i < k) : (s % 2 ^ k).testBit i = s.testBit i := by
  rw [Nat.testBit_mod_two_pow]; simp [h]
theorem f_mod_succ {s k S : Nat} (hS : S < 2 ^ k) : s % 2 ^ k = S ↔ (s % 2 ^ (k + 1) = S ∨ s % 2 ^ (k + 1) = S ||| 2 ^ k) := by
  have hor : S ||| 2 ^ k = 2 ^ k + S := by
    rw [Nat.or_comm]
    have := Nat.two_pow_add_eq_or_of_lt hS 1
    rw [Nat.mul_one] at this
    exact this.symm
  have hp : 2 ^ (k + 1) = 2 ^ k * 2 := Nat.pow_succ 2 k
  have hp0 : 0 < 2 ^ k := Nat.two_pow_pos k
  have e : s % 2 ^ (k + 1) % 2 ^ k = s % 2 ^ k := by rw [hp]; exact Nat.mod_mul_right_mod s (2 ^ k) 2
  have hlt : s % 2 ^ (k + 1) < 2 ^ k * 2 := by rw [hp]; exact Nat.mod_lt _ (by omega)
  generalize s % 2 ^ (k + 1) = r at *
  rw [hor, ← e]
  generalize 2 ^ k = p at *
  constructor
  · intro h
    by_cases hr : r < p
    · rw [Nat.mod_eq_of_lt hr] at h; exact Or.inl h
    · have : r % p = r - p := by
        rw [Nat.mod_eq_sub_mod (by omega), Nat.mod_eq_of_lt (by omega)]
      omega
  · rintro (h | h)
    · subst h; exact Nat.mod_eq_of_lt hS
    · subst h; rw [Nat.add_mod_left]; exact Nat.mod_eq_of_lt hS
theorem f_fr_ok (g : Nat → Nat) (n : Nat) : ∀ (d k S : Nat) (V : Nat → Prop) (st : Nat × Nat), k + d = n → S < 2 ^ k → f_FR g k S → f_IV V st → f_IV (fun s => V s ∨ (s < 2 ^ n ∧ s % 2 ^ k = S ∧ f_FR g n s)) (f_fr g n d S st) := by
  intro d
  induction d with
  | zero =>
    intro k S V st hk hS hF h
    have hk : k = n := by omega
    subst hk
    refine (f_IV.add h S).cg (fun s => ?_)
    constructor
    · rintro (z | z)
      · exact Or.inl z
      · subst z; exact Or.inr ⟨hS, Nat.mod_eq_of_lt hS, hF⟩
    · rintro (z | ⟨z1, z2, z3⟩)
      · exact Or.inl z
      · rw [Nat.mod_eq_of_lt z1] at z2; exact Or.inr z2
  | succ d ih =>
    intro k S V st hk hS hF h
    have hk2 : n - (d + 1) = k := by omega
    have hp : 2 ^ (k + 1) = 2 ^ k * 2 := Nat.pow_succ 2 k
    have hS1 : S < 2 ^ (k + 1) := by omega
    have hbk : S.testBit k = false := Nat.testBit_lt_two_pow hS
    have hF1 : f_FR g (k + 1) S := fun i j l h1 h2 h3 h4 h5 h6 => by
      by_cases e : l = k
      · subst e; rw [hbk] at h6; cases h6
      · exact hF i j l h1 h2 (by omega) h4 h5 h6
    have q1 := ih (k + 1) S V st (by omega) hS1 hF1 h
    show f_IV _ (if f_ifr g S (n - (d + 1)) = true then f_fr g n d (S ||| 2 ^ (n - (d + 1))) (f_fr g n d S st) else f_fr g n d S st)
    rw [hk2]
    have hob : ∀ i, i < k → (S ||| 2 ^ k).testBit i = S.testBit i := fun i hi => by
      rw [Nat.testBit_or, Nat.testBit_two_pow]; simp [show ¬ k = i by omega]
    have hok : (S ||| 2 ^ k).testBit k = true := by rw [Nat.testBit_or, Nat.testBit_two_pow]; simp
    cases hi : f_ifr g S k with
    | true =>
      rw [if_pos rfl]
      have hor : S ||| 2 ^ k < 2 ^ (k + 1) := Nat.or_lt_two_pow hS1 (by have := Nat.two_pow_pos k; omega)
      have hF2 : f_FR g (k + 1) (S ||| 2 ^ k) := fun i j l h1 h2 h3 h4 h5 h6 => by
        by_cases e : l = k
        · subst e
          rw [hob i (by omega)] at h4
          rw [hob j (by omega)] at h5
          exact of_decide_eq_true hi i (by omega) j h2 ⟨h1, h4, h5⟩
        · rw [hob i (by omega)] at h4
          rw [hob j (by omega)] at h5
          rw [hob l (by omega)] at h6
          exact hF i j l h1 h2 (by omega) h4 h5 h6
      refine (ih (k + 1) (S ||| 2 ^ k) _ _ (by omega) hor hF2 q1).cg (fun s => ?_)
      rw [f_mod_succ (s := s) hS]
      constructor
      · rintro ((z | ⟨z1, z2, z3⟩) | ⟨z1, z2, z3⟩)
        · exact Or.inl z
        · exact Or.inr ⟨z1, Or.inl z2, z3⟩
        · exact Or.inr ⟨z1, Or.inr z2, z3⟩
      · rintro (z | ⟨z1, z2 | z2, z3⟩)
        · exact Or.inl (Or.inl z)
        · exact Or.inl (Or.inr ⟨z1, z2, z3⟩)
        · exact Or.inr ⟨z1, z2, z3⟩
    | false =>
      rw [if_neg (by decide)]
      refine q1.cg (fun s => ?_)
      rw [f_mod_succ (s := s) hS]
      constructor
      · rintro (z | ⟨z1, z2, z3⟩)
        · exact Or.inl z
        · exact Or.inr ⟨z1, Or.inl z2, z3⟩
      · rintro (z | ⟨z1, z2 | z2, z3⟩)
        · exact Or.inl z
        · exact Or.inr ⟨z1, z2, z3⟩
        · refine (f_ifr_no (k := k) (n := n) (by omega) hi z3 ?_ (fun i hi2 => ?_)).elim
          · rw [← f_mod_bit (k := k + 1) (by omega), z2]; exact hok
          · rw [← f_mod_bit (s := s) (k := k + 1) (by omega), z2]; exact hob i hi2
theorem f_fr_best (g : Nat → Nat) (n : Nat) : f_IV (fun s => s < 2 ^ n ∧ f_FR g n s) (f_fr g n n 0 (0, 0)) := by
  have h := f_fr_ok g n n 0 0 (fun _ => False) (0, 0) (Nat.zero_add _) (by decide) (fun i j k _ _ h => absurd h (Nat.not_lt_zero k)) (Or.inl ⟨rfl, fun _ z => z⟩)
  refine h.cg (fun s => ?_)
  constructor
  · rintro (z | ⟨z1, z2, z3⟩)
    · exact z.elim
    · exact ⟨z1, z3⟩
  · intro z
    exact Or.inr ⟨z.1, Nat.mod_one s, z.2⟩
theorem f_bst_ok (P : Nat → Bool) (h0 : P 0 = true) : ∀ N, 0 < N → f_bst P N < N ∧ P (f_bst P N) = true ∧ ∀ s, s < N → P s = true → f_pc s < f_pc (f_bst P N) ∨ (f_pc s = f_pc (f_bst P N) ∧ f_bst P N ≤ s) := by
  intro N
  induction N with
  | zero => intro h; omega
  | succ N ih =>
    intro _
    unfold f_bst
    by_cases hN : N = 0
    · subst hN
      have e : f_bst P 0 = 0 := rfl
      rw [e, if_neg (fun z => Nat.lt_irrefl _ z.1)]
      exact ⟨by omega, h0, fun s hs _ => by have : s = 0 := by omega
                                            subst this; exact Or.inr ⟨rfl, Nat.le_refl _⟩⟩
    · obtain ⟨a, b, c⟩ := ih (by omega)
      by_cases h : f_pc (f_bst P N) < f_pc N ∧ P N = true
      · rw [if_pos h]
        refine ⟨by omega, h.2, fun s hs hp => ?_⟩
        by_cases e : s = N
        · subst e; exact Or.inr ⟨rfl, Nat.le_refl _⟩
        · have := c s (by omega) hp; omega
      · rw [if_neg h]
        refine ⟨by omega, b, fun s hs hp => ?_⟩
        by_cases e : s = N
        · subst e
          have : ¬ f_pc (f_bst P s) < f_pc s := fun z => h ⟨z, hp⟩
          omega
        · exact c s (by omega) hp
/-! what isUnclosing finds in the row laid in order -/
def f_p2 (g : Nat → Nat) (a : Nat) : List Nat → Prop
  | [] => True
  | y :: l => (∀ z ∈ l, a + g y ≤ g z) ∧ f_p2 g a l
def f_p3 (g : Nat → Nat) : List Nat → Prop
  | [] => True
  | x :: l => f_p2 g (g x) l ∧ f_p3 g l
theorem f_p2_mono {g : Nat → Nat} {a b : Nat} (h : b ≤ a) : ∀ l, f_p2 g a l → f_p2 g b l := by
  intro l
  induction l with
  | nil => intro _; trivial
  | cons y l ih => intro q; exact ⟨fun z hz => by have := q.1 z hz; omega, ih q.2⟩
def f_unL (g : Nat → Nat) : List Nat → Nat → Nat → Bool
  | [], _, _ => true
  | i :: l, b, u => if g i < b + u then false else f_unL g l (g i) b
theorem f_unc_unL (g : Nat → Nat) (s : Nat) : ∀ (l : List Nat) (b u : Nat), f_unc g s l b u = f_unL g (l.filter (fun i => s.testBit i)) b u := by
  intro l
  induction l with
  | nil => intro b u; rfl
  | cons i l ih =>
    intro b u
    unfold f_unc
    by_cases h : s.testBit i = true
    · rw [if_pos h, List.filter_cons_of_pos h]
      unfold f_unL
      rw [ih]
    · rw [if_neg h, List.filter_cons_of_neg h, ih]
theorem f_unL_ok (g : Nat → Nat) : ∀ (c : List Nat) (b u : Nat), f_sdk g c → (∀ y ∈ c, b ≤ g y) → (f_unL g c b u = true ↔ f_p3 g c ∧ f_p2 g b c ∧ ∀ z ∈ c, b + u ≤ g z) := by
  intro c
  induction c with
  | nil => intro b u _ _; exact ⟨fun _ => ⟨trivial, trivial, fun z hz => by simp at hz⟩, fun _ => rfl⟩
  | cons i l ih =>
    intro b u hs hb
    have hbi := hb i List.mem_cons_self
    unfold f_unL
    by_cases h : g i < b + u
    · rw [if_pos h]
      constructor
      · intro z; cases z
      · rintro ⟨_, _, h3⟩
        have := h3 i List.mem_cons_self
        omega
    · rw [if_neg h, ih (g i) b hs.2 hs.1]
      constructor
      · rintro ⟨h1, h2, h3⟩
        refine ⟨⟨h2, h1⟩, ⟨fun z hz => by have := h3 z hz; omega, f_p2_mono hbi l h2⟩, fun z hz => ?_⟩
        rcases List.mem_cons.mp hz with e | hz
        · subst e; omega
        · have := hs.1 z hz; omega
      · rintro ⟨⟨h1, h2⟩, ⟨h3, h4⟩, h5⟩
        exact ⟨h2, h1, fun z hz => by have := h3 z hz; omega⟩
theorem f_p2_pair {g : Nat → Nat} {a : Nat} : ∀ l : List Nat, f_p2 g a l → ∀ y ∈ l, ∀ z ∈ l, y ≠ z → a + g y ≤ g z ∨ a + g z ≤ g y := by
  intro l
  induction l with
  | nil => intro _ y hy; simp at hy
  | cons x l ih =>
    intro h y hy z hz hne
    rcases List.mem_cons.mp hy with e1 | y1
    · rcases List.mem_cons.mp hz with e2 | z1
      · exact absurd (e1.trans e2.symm) hne
      · rw [e1]; exact Or.inl (h.1 z z1)
    · rcases List.mem_cons.mp hz with e2 | z1
      · rw [e2]; exact Or.inr (h.1 y y1)
      · exact ih h.2 y y1 z z1 hne
theorem f_clz_no {a b c : Nat} : f_clz a b c = false ↔ (a + b ≤ c ∨ a + c ≤ b ∨ b + c ≤ a) := by
  unfold f_clz
  by_cases h1 : c < a + b
  · by_cases h2 : b < a + c
    · by_cases h3 : a < b + c
      · simp [h1, h2, h3] <;> omega
      · simp [h1, h2, h3]; omega
    · simp [h1, h2]; omega
  · simp [h1]; omega
theorem f_p3_dis {g : Nat → Nat} : ∀ c : List Nat, c.Nodup → f_p3 g c → ∀ x ∈ c, ∀ y ∈ c, ∀ z ∈ c, x ≠ y → y ≠ z → x ≠ z → f_clz (g x) (g y) (g z) = false := by
  intro c
  induction c with
  | nil => intro _ _ x hx; simp at hx
  | cons a l ih =>
    intro hn h x hx y hy z hz h1 h2 h3
    have hn2 := (List.nodup_cons.mp hn).2
    rw [f_clz_no]
    rcases List.mem_cons.mp hx with e1 | x1
    · rcases List.mem_cons.mp hy with e2 | y1
      · exact absurd (e1.trans e2.symm) h1
      rcases List.mem_cons.mp hz with e3 | z1
      · exact absurd (e1.trans e3.symm) h3
      have := f_p2_pair l h.1 y y1 z z1 h2
      rw [e1]
      omega
    · rcases List.mem_cons.mp hy with e2 | y1
      · rcases List.mem_cons.mp hz with e3 | z1
        · exact absurd (e2.trans e3.symm) h2
        have := f_p2_pair l h.1 x x1 z z1 h3
        rw [e2]
        omega
      · rcases List.mem_cons.mp hz with e3 | z1
        · have := f_p2_pair l h.1 x x1 y y1 h1
          rw [e3]
          omega
        · exact f_clz_no.mp (ih hn2 h.2 x x1 y y1 z z1 h1 h2 h3)
theorem f_p2_of {g : Nat → Nat} {x : Nat} : ∀ l : List Nat, f_sdk g l → l.Nodup → (∀ y ∈ l, g x ≤ g y ∧ 1 ≤ g y ∧ x ≠ y) → 1 ≤ g x → (∀ y ∈ l, ∀ z ∈ l, y ≠ z → f_clz (g x) (g y) (g z) = false) → f_p2 g (g x) l := by
  intro l
  induction l with
  | nil => intro _ _ _ _ _; trivial
  | cons y l ih =>
    intro hs hn hx h1 hc
    have hn2 := List.nodup_cons.mp hn
    refine ⟨fun z hz => ?_, ih hs.2 hn2.2 (fun y hy => hx y (List.mem_cons_of_mem _ hy)) h1 (fun y hy z hz => hc y (List.mem_cons_of_mem _ hy) z (List.mem_cons_of_mem _ hz))⟩
    have q := f_clz_no.mp (hc y List.mem_cons_self z (List.mem_cons_of_mem _ hz) (fun e => hn2.1 (e ▸ hz)))
    have h2 := hs.1 z hz
    have h3 := hx y List.mem_cons_self
    omega
theorem f_p3_of {g : Nat → Nat} : ∀ c : List Nat, f_sdk g c → c.Nodup → (∀ y ∈ c, 1 ≤ g y) → (∀ x ∈ c, ∀ y ∈ c, ∀ z ∈ c, x ≠ y → y ≠ z → x ≠ z → f_clz (g x) (g y) (g z) = false) → f_p3 g c := by
  intro c
  induction c with
  | nil => intro _ _ _ _; trivial
  | cons a l ih =>
    intro hs hn hp hc
    have hn2 := List.nodup_cons.mp hn
    refine ⟨f_p2_of l hs.2 hn2.2 (fun y hy => ⟨hs.1 y hy, hp y (List.mem_cons_of_mem _ hy), fun e => hn2.1 (e ▸ hy)⟩) (hp a List.mem_cons_self) (fun y hy z hz hne => hc a List.mem_cons_self y (List.mem_cons_of_mem _ hy) z (List.mem_cons_of_mem _ hz) (fun e => hn2.1 (e ▸ hy)) hne (fun e => hn2.1 (e ▸ hz))), ih hs.2 hn2.2 (fun y hy => hp y (List.mem_cons_of_mem _ hy)) (fun x hx y hy z hz => hc x (List.mem_cons_of_mem _ hx) y (List.mem_cons_of_mem _ hy) z (List.mem_cons_of_mem _ hz))⟩
theorem f_insk_nodup {g : Nat → Nat} {x : Nat} : ∀ l : List Nat, l.Nodup → x ∉ l → (f_insk g x l).Nodup := by
  intro l
  induction l with
  | nil => intro _ _; simp [f_insk]
  | cons a l ih =>
    intro hn hx
    have hn2 := List.nodup_cons.mp hn
    unfold f_insk
    split
    · refine List.nodup_cons.mpr ⟨fun z => ?_, ih hn2.2 (fun z => hx (List.mem_cons_of_mem _ z))⟩
      rcases (f_insk_mem l).mp z with e | e
      · exact hx (e ▸ List.mem_cons_self)
      · exact hn2.1 e
    · exact List.nodup_cons.mpr ⟨hx, hn⟩
theorem f_ordk_nodup (g : Nat → Nat) : ∀ n, (f_ordk g n).Nodup := by
  intro n
  induction n with
  | zero => exact List.nodup_nil
  | succ n ih => exact f_insk_nodup _ ih (fun z => Nat.lt_irrefl n ((f_ordk_mem g n n).mp z))
theorem f_sdk_filter {g : Nat → Nat} {p : Nat → Bool} : ∀ l : List Nat, f_sdk g l → f_sdk g (l.filter p) := by
  intro l
  induction l with
  | nil => intro _; trivial
  | cons a l ih =>
    intro h
    by_cases hp : p a = true
    · rw [List.filter_cons_of_pos hp]
      exact ⟨fun y hy => h.1 y (List.mem_filter.mp hy).1, ih h.2⟩
    · rw [List.filter_cons_of_neg hp]
      exact ih h.2
theorem f_FR_dis {g : Nat → Nat} {n S : Nat} : f_FR g n S ↔ ∀ x y z, x < n → y < n → z < n → S.testBit x = true → S.testBit y = true → S.testBit z = true → x ≠ y → y ≠ z → x ≠ z → f_clz (g x) (g y) (g z) = false := by
  constructor
  · intro h x y z hx hy hz bx hb bz h1 h2 h3
    rw [f_clz_no]
    have q : ∀ i j k, i < j → j < k → k < n → S.testBit i = true → S.testBit j = true → S.testBit k = true → (g i + g j ≤ g k ∨ g i + g k ≤ g j ∨ g j + g k ≤ g i) := fun i j k a b c d e f => f_clz_no.mp (h i j k a b c d e f)
    rcases Nat.lt_or_ge x y with a | a
    · rcases Nat.lt_or_ge y z with b | b
      · exact q x y z a b hz bx hb bz
      · rcases Nat.lt_or_ge x z with c | c
        · have := q x z y c (by omega) hy bx bz hb; omega
        · have := q z x y (by omega) a hy bz bx hb; omega
    · rcases Nat.lt_or_ge x z with b | b
      · have := q y x z (by omega) b hz hb bx bz; omega
      · rcases Nat.lt_or_ge y z with c | c
        · have := q y z x c (by omega) hx hb bz bx; omega
        · have := q z y x (by omega) (by omega) hx bz hb bx; omega
  · intro h i j k h1 h2 h3 b1 b2 b3
    exact h i j k (by omega) (by omega) h3 b1 b2 b3 (by omega) (by omega) (by omega)
theorem f_unc_ok {g : Nat → Nat} {n : Nat} (hg : ∀ i, i < n → 1 ≤ g i) (S : Nat) : f_unc g S (f_ordk g n) 0 0 = true ↔ f_FR g n S := by
  have hmem : ∀ y, y ∈ (f_ordk g n).filter (fun i => S.testBit i) ↔ y < n ∧ S.testBit y = true := fun y => by
    rw [List.mem_filter, f_ordk_mem]
  have hs := f_sdk_filter (p := fun i => S.testBit i) _ (f_ordk_sd g n)
  have hnd := (f_ordk_nodup g n).filter (fun i => S.testBit i)
  rw [f_unc_unL, f_unL_ok g _ 0 0 hs (fun y _ => Nat.zero_le _), f_FR_dis]
  constructor
  · rintro ⟨h3, _, _⟩ x y z hx hy hz bx hb bz h1 h2 h4
    exact f_p3_dis _ hnd h3 x ((hmem x).mpr ⟨hx, bx⟩) y ((hmem y).mpr ⟨hy, hb⟩) z ((hmem z).mpr ⟨hz, bz⟩) h1 h2 h4
  · intro h
    refine ⟨f_p3_of _ hs hnd (fun y hy => hg y ((hmem y).mp hy).1) (fun x hx y hy z hz h1 h2 h3 => ?_), ?_, fun z _ => Nat.zero_le _⟩
    · have a := (hmem x).mp hx
      have b := (hmem y).mp hy
      have c := (hmem z).mp hz
      exact h x y z a.1 b.1 c.1 a.2 b.2 c.2 h1 h2 h3
    · generalize (f_ordk g n).filter (fun i => S.testBit i) = c at hs
      have : ∀ c : List Nat, f_sdk g c → f_p2 g 0 c := by
        intro c
        induction c with
        | nil => intro _; trivial
        | cons y l ih => intro h; exact ⟨fun z hz => by have := h.1 z hz; omega, ih h.2⟩
      exact this c hs
theorem f_mu_fr {g : Nat → Nat} {n : Nat} (hg : ∀ i, i < n → 1 ≤ g i) : f_fr g n n 0 (0, 0) = (f_pc (f_mu g n) + 1, f_mu g n) := by
  have h0 : f_FR g n 0 := fun i j k _ _ _ h => by rw [Nat.zero_testBit] at h; cases h
  obtain ⟨a, b, c⟩ := f_bst_ok (fun s => f_unc g s (f_ordk g n) 0 0) ((f_unc_ok hg 0).mpr h0) (2 ^ n) (Nat.two_pow_pos n)
  have b := (f_unc_ok hg _).mp b
  have em : f_bst (fun s => f_unc g s (f_ordk g n) 0 0) (2 ^ n) = f_mu g n := rfl
  rw [em] at a b c
  rcases f_fr_best g n with ⟨_, h⟩ | ⟨h1, h2, h3⟩
  · exact absurd ⟨Nat.two_pow_pos n, h0⟩ (h 0)
  · have q1 := h3 _ ⟨a, b⟩
    have q2 := c _ h2.1 ((f_unc_ok hg _).mpr h2.2)
    have e : (f_fr g n n 0 (0, 0)).2 = f_mu g n := by omega
    refine Prod.ext ?_ e
    rw [h1, e]
def S_ff10 : fSp := fun G As M R => ∃ d, d ≤ 10 ∧ S_ff d G As M R
set_option maxRecDepth 20000 in
theorem m_y_none : f_Meets 2 (kX12_none S_in S_ff10) (f_y1 p_none) := by
  intro G As M R hsp X hX hW
  match As, hsp with
  | [.ref 100, .int w], ⟨s, hG, hS, hR, hsp⟩ =>
    subst hG
    unfold p_none at hsp
    have hbx := hS.bx
    have w01 : ∀ w : Int32, 0 ≤ w → w ≤ 1 → w = 0 ∨ w = 1 := fun w h1 h2 => by
      obtain ⟨W, hWb, rfl⟩ := nI_of (x := w) (Int32.not_lt.mpr h1)
      have := (nI_leI (b := 1) hWb (by omega)).mp h2
      have : W = 0 ∨ W = 1 := by omega
      rcases this with rfl | rfl
      · exact Or.inl rfl
      · exact Or.inr rfl
    refine f_run_ok (stop := fun q => Nat.beq q 11) hX 40 _ _ _ _ _ ?_
    refine And.intro (fun h => ?_) (fun h => ?_)
    · have h : f_b (decide (0 ≤ w ∧ w ≤ 1)) = 0 := h
      have h := of_decide_eq_false (f_b0.mp h)
      rw [if_pos ⟨fun z => h (by rw [z]; decide), fun z => h (by rw [z]; decide)⟩] at hsp
      exact hsp M hR
    · have h : ¬ f_b (decide (0 ≤ w ∧ w ≤ 1)) = 0 := h
      have h := f_inY h
      have hw := w01 w h.1 h.2
      rw [if_neg (fun z => hw.elim z.1 z.2)] at hsp
      have he0 : f_em [1027, 1028] M (f_up (f_up M.1 100 27 (-1)) 100 28 0, M.2) := (f_em.rf.uf (by decide)).uf (k := 28) (by decide)
      have r0 := hR.em he0 (by decide)
      refine f_run_ok (stop := fun q => Nat.beq q 27) hX 40 _ _ _ _ _ ?_
      refine ⟨s.1.1 0 4, hbx, 0, 0, s.1.1 0 4, s.1.1 5, (0, 0), rfl, rfl, Nat.zero_add _, hbx, rfl, by decide, r0.bx, fun i hi => ⟨r0.bo i (by omega), by have := hS.bo i hi; omega⟩, rfl, by show 0 ≤ 18; omega, rfl, by show 0 < 2 ^ 17; decide, fun M1 he1 a1 a2 a3 a4 => ?_⟩
      have r1 := r0.em he1 (by decide)
      rw [f_mu_fr (fun i hi => (hS.bo i hi).1)] at a1 a3
      show X f_GM 27 [some (.ref 100), some (.int w)] [] M1
      refine f_run_ok (stop := fun q => false) hX 40 _ _ _ _ _ ?_
      refine And.intro (fun h2 => ?_) (fun h2 => ?_)
      · rw [if_pos h2] at hsp
        exact f_fin (hsp M1 r1) (congrArg (fun z => some (Value.int z)) a1.symm) rfl
      · rw [if_neg h2] at hsp
        exact f_fin (hsp M1 r1) (congrArg (fun z => some (Value.int z)) a3.symm) rfl
