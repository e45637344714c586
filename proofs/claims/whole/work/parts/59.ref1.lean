/-! ===== the reference: its state, frames, small methods ===== -/
/-- changed in these places alone: arrays by their cells, the object's own fields by 1000 and their number -/
def f_em (ls : List Nat) (M M' : fMem) : Prop := (∀ c, c ≠ 100 → c ∉ ls → M'.1 c = M.1 c) ∧ (∀ c, c ≠ 100 → c ∉ ls → M'.2 c = M.2 c) ∧ (∀ k, 1000 + k ∉ ls → M'.1 100 k = M.1 100 k) ∧ ∀ k, 1000 + k ∉ ls → M'.2 100 k = M.2 100 k
theorem f_em.rf {ls : List Nat} {M : fMem} : f_em ls M M := ⟨fun _ _ _ => rfl, fun _ _ _ => rfl, fun _ _ => rfl, fun _ _ => rfl⟩
theorem f_em.tr {ls : List Nat} {M M1 M2 : fMem} (h1 : f_em ls M M1) (h2 : f_em ls M1 M2) : f_em ls M M2 := ⟨fun c a b => (h2.1 c a b).trans (h1.1 c a b), fun c a b => (h2.2.1 c a b).trans (h1.2.1 c a b), fun c a => (h2.2.2.1 c a).trans (h1.2.2.1 c a), fun c a => (h2.2.2.2 c a).trans (h1.2.2.2 c a)⟩
theorem f_em.mono {ls ls' : List Nat} {M M' : fMem} (h : f_em ls M M') (hs : ∀ c ∈ ls, c ∈ ls') : f_em ls' M M' := ⟨fun c a b => h.1 c a (fun q => b (hs c q)), fun c a b => h.2.1 c a (fun q => b (hs c q)), fun c a => h.2.2.1 c (fun q => a (hs _ q)), fun c a => h.2.2.2 c (fun q => a (hs _ q))⟩
theorem f_em.up {ls : List Nat} {M M' : fMem} (h : f_em ls M M') {c k : Nat} {v : Int32} (hc : c ≠ 100 ∧ c ∈ ls) : f_em ls M (f_up M'.1 c k v, M'.2) := ⟨fun d a b => by
  rw [← h.1 d a b]
  exact f_up_ne (fun e => b (e ▸ hc.2)), h.2.1, fun d a => by
  rw [← h.2.2.1 d a]
  show f_up M'.1 c k v 100 d = _
  rw [f_up_ne (fun e => hc.1 e.symm)], h.2.2.2⟩
theorem f_em.uf {ls : List Nat} {M M' : fMem} (h : f_em ls M M') {k : Nat} {v : Int32} (hc : 1000 + k ∈ ls) : f_em ls M (f_up M'.1 100 k v, M'.2) := ⟨fun d a b => by
  rw [← h.1 d a b]
  exact f_up_ne a, h.2.1, fun d a => by
  rw [← h.2.2.1 d a]
  show (if 100 = 100 then (if d = k then v else M'.1 100 d) else M'.1 100 d) = _
  rw [if_pos rfl, if_neg (fun (e : d = k) => a (by rw [e]; exact hc))], h.2.2.2⟩
theorem f_em.uL {ls : List Nat} {M M' : fMem} (h : f_em ls M M') {c k : Nat} {v : Int64} (hc : c ≠ 100 ∧ c ∈ ls) : f_em ls M (M'.1, f_upL M'.2 c k v) := ⟨h.1, fun d a b => by
  rw [← h.2.1 d a b]
  exact f_upL_ne (fun e => b (e ▸ hc.2)), h.2.2.1, fun d a => by
  rw [← h.2.2.2 d a]
  show f_upL M'.2 c k v 100 d = _
  rw [f_upL_ne (fun e => hc.1 e.symm)]⟩
theorem f_em.ufL {ls : List Nat} {M M' : fMem} (h : f_em ls M M') {k : Nat} {v : Int64} (hc : 1000 + k ∈ ls) : f_em ls M (M'.1, f_upL M'.2 100 k v) := ⟨h.1, fun d a b => by
  rw [← h.2.1 d a b]
  exact f_upL_ne a, h.2.2.1, fun d a => by
  rw [← h.2.2.2 d a]
  show (if 100 = 100 then (if d = k then v else M'.2 100 d) else M'.2 100 d) = _
  rw [if_pos rfl, if_neg (fun (e : d = k) => a (by rw [e]; exact hc))]⟩
/-- the steps of a yard's rules as the reference keeps them -/
def f_rst (t : Nat) : Int32 := if t < 2000 then nI (t / 300 + 8 * (t / 100 % 3) + 32 * (t % 100)) else if t = 2000 then -1 else if t = 2001 then -2 else -3
def f_rsE (q : Bool × Nat) : Int32 := (if q.1 = true then -200 else -10) - nI q.2
def f_rsL (rs : List fRl) : List Int32 := rs.flatMap (fun q => q.2.2.map f_rst ++ [f_rsE (q.1, q.2.1)])
/-- a test's letter is one of five -/
def f_gs (x : Int32) : Prop := ∀ n : Nat, n < 2 ^ 31 → x = nI n → n % 8 < 5
/-- rows of steps: so many, these -/
def f_SR (c a : Nat) (l : List Int32) (M : fMem) : Prop := M.1 c (201 + a) = nI l.length ∧ (l.length ≤ 140 ∧ ∀ x ∈ l, f_gs x) ∧ ∀ j x, l[j]? = some x → M.1 c (206 + 140 * a + j) = x
def f_HR (c : Nat) (y : fYd) (M : fMem) : Prop := (M.1 c 6 = -1 ∧ y = (12, 2, [])) ∨ ∃ a l m : Nat, (a < 5 ∧ M.1 c 6 < M.1 c 1) ∧ M.1 c 6 = nI a ∧ M.1 c (191 + a) = nI l ∧ l < 100 ∧ max 2 (min 17 l) = y.1 ∧ M.1 c (196 + a) = nI m ∧ m < 100 ∧ max 1 (min 3 m) = y.2.1 ∧ f_SR c a (f_rsL y.2.2) M
def f_CR (c : Nat) (s : fCo) (M : fMem) : Prop :=
  (M.1 c 0 = nI (s.1 0 0) ∧ M.1 c 1 = nI (s.1 0 1) ∧ M.1 c 7 = nI (s.1 0 2) ∧ M.1 c 8 = s.2.1 ∧ M.1 c 5 = nI (s.1 0 3) ∧ M.1 c 2 = nI (s.1 0 4) ∧ M.1 c 3 = nI (s.1 0 5) ∧ M.1 c 4 = nI (s.1 0 6)) ∧
  ((∀ i, i < 6 → M.1 c (9 + i) = nI (s.1 1 i)) ∧ (∀ i, i < 6 → M.1 c (15 + i) = nI (s.1 2 i)) ∧ (∀ i, i < 24 → M.1 c (21 + i) = nI (s.1 3 i)) ∧ (∀ i, i < 100 → M.1 c (91 + i) = nI (s.1 4 i)) ∧ (∀ i, i < 10 → M.1 c (45 + i) = nI (s.1 5 i)) ∧ (∀ i, i < s.1 0 5 → M.1 c (55 + i) = nI (s.1 6 i)) ∧ ∀ i, i < 32 → M.1 c (59 + i) = nI (s.1 7 i)) ∧ f_HR c s.2.2 M
def f_TM (M : fMem) (tr : List Nat) : Prop := M.1 100 35 = nI tr.length ∧ ∀ i y, i < 20 → tr[i]? = some y → M.1 116 i = nI y
def f_RM (s : fSt) (M : fMem) : Prop := f_CR 101 s.1 M ∧ M.1 100 3 = f_b s.2.1.isSome ∧ (∀ k, s.2.1 = some k → f_CR 102 k M) ∧ f_TM M s.2.2
theorem f_HR.cg {c : Nat} {y : fYd} {M M' : fMem} (h : f_HR c y M) (e : M'.1 c = M.1 c) : f_HR c y M' := by
  unfold f_HR f_SR at *
  rw [e]
  exact h
theorem f_CR.cg {c : Nat} {s : fCo} {M M' : fMem} (h : f_CR c s M) (e : M'.1 c = M.1 c) : f_CR c s M' := by
  refine ⟨?_, ?_, h.2.2.cg e⟩
  · rw [e]; exact h.1
  · rw [e]; exact h.2.1
theorem f_RM.em {ls : List Nat} {s : fSt} {M M' : fMem} (h : f_RM s M) (he : f_em ls M M') (h1 : 101 ∉ ls ∧ 102 ∉ ls ∧ 116 ∉ ls ∧ 1003 ∉ ls ∧ 1035 ∉ ls) : f_RM s M' := by
  obtain ⟨a, b, c, d1, d2⟩ := h
  obtain ⟨g1, g2, g3, g4, g5⟩ := h1
  exact ⟨a.cg (he.1 101 (by decide) g1), (he.2.2.1 3 g4).trans b, fun k hk => (c k hk).cg (he.1 102 (by decide) g2), (he.2.2.1 35 g5).trans d1, fun i y hi hy => by rw [he.1 116 (by decide) g3]; exact d2 i y hi hy⟩
/-- a call of the reference, told by what it answers -/
def f_yK (s : fSt) (r : Value × fSt) (G : fG) (M : fMem) (R : fR) : Prop := G = f_GM ∧ f_SW s ∧ f_RM s M ∧ ∀ M', f_RM r.2 M' → R G (some r.1) M'
def f_y0 (p : fSt → Value × fSt) : fSp := fun G As M R => match As with
  | [.ref 100] => ∃ s, f_yK s (p s) G M R
  | _ => False
def f_y1 (p : fSt → Int32 → Value × fSt) : fSp := fun G As M R => match As with
  | [.ref 100, .int a] => ∃ s, f_yK s (p s a) G M R
  | _ => False
def f_y2 (p : fSt → Int32 → Int32 → Value × fSt) : fSp := fun G As M R => match As with
  | [.ref 100, .int a, .int b] => ∃ s, f_yK s (p s a b) G M R
  | _ => False
def f_y3 (p : fSt → Int32 → Int32 → Int32 → Value × fSt) : fSp := fun G As M R => match As with
  | [.ref 100, .int a, .int b, .int c] => ∃ s, f_yK s (p s a b c) G M R
  | _ => False
def f_y4 (p : fSt → Int32 → Int32 → Int32 → Int32 → Value × fSt) : fSp := fun G As M R => match As with
  | [.ref 100, .int a, .int b, .int c, .int d] => ∃ s, f_yK s (p s a b c d) G M R
  | _ => False
theorem f_ix {z : Int32} {k n : Nat} (hz : z = nI k) (hk : k < n) (hn : n < 2 ^ 31) : vp_in z n ∧ z.toNatClampNeg = k := by
  subst hz
  exact ⟨vp_in_nI hk hn, nI_clamp (by omega)⟩
theorem v9 (k : Nat) (h : k < 906) : vp_in (nI k) 906 := vp_in_nI h (by omega)
theorem n_sb {n k : Nat} (hn : n < 2 ^ 31) (hk : k < 31) : (nI n >>> (nI k &&& 31)) &&& 1 = f_b (n.testBit k) := by
  rw [n_shr hn hk]
  have h1 : nI (n / 2 ^ k) &&& 1 = nI (n / 2 ^ k % 2) := by
    show nI (n / 2 ^ k) &&& nI 1 = _
    rw [fa_and, Nat.and_one_is_mod]
  rw [h1, Nat.testBit_eq_decide_div_mod_eq]
  have h2 : n / 2 ^ k % 2 = 0 ∨ n / 2 ^ k % 2 = 1 := by omega
  rcases h2 with h2 | h2 <;> (rw [h2]; rfl)
/-! in, isBreaker -/
def S_in : fSp := fun G As M R => match As with
  | [.int x, .int lo, .int hi] => R G (some (.int (f_b (decide (lo ≤ x ∧ x ≤ hi))))) M
  | _ => False
theorem m_in : f_Meets 3 kX12_in S_in := by
  intro G As M R hsp X hX hW
  match As, hsp with
  | [.int x, .int lo, .int hi], hsp =>
    refine f_run_ok (stop := fun _ => false) hX 20 _ _ _ _ _ ?_
    refine And.intro (fun h => ?_) (fun h => And.intro (fun h2 => ?_) (fun h2 => ?_))
    · exact And.intro rfl (f_fin hsp (by rw [decide_eq_false (fun z => Int32.not_lt.mpr z.1 h)]; rfl) rfl)
    · exact And.intro rfl (f_fin hsp (by rw [decide_eq_false (fun z => Int32.not_lt.mpr z.2 h2)]; rfl) rfl)
    · exact And.intro rfl (f_fin hsp (by rw [decide_eq_true ⟨Int32.not_lt.mp h, Int32.not_lt.mp h2⟩]; rfl) rfl)
def S_yB : fSp := fun G As M R => match As with
  | [.ref 100, .int b] => ∃ n : Nat, G = f_GM ∧ n < 2 ^ 31 ∧ M.1 101 0 = nI n ∧ R G (some (.int (f_b (decide (0 ≤ b ∧ b < nI n))))) M
  | _ => False
theorem f_lt_pred {b : Int32} {n : Nat} (hn : n < 2 ^ 31) (hb : 0 ≤ b) : b ≤ nI n - 1 ↔ b < nI n := by
  have e : (nI n - 1).toInt = (n : Int) - 1 := by
    cases n with
    | zero => decide
    | succ m => rw [nI_pred, nI_toInt (by omega)]; omega
  rw [Int32.le_iff_toInt_le, Int32.lt_iff_toInt_lt, e, nI_toInt hn]
  omega
theorem m_yB : f_Meets 2 (kX12_isBreaker S_in) S_yB := by
  intro G As M R hsp X hX hW
  match As, hsp with
  | [.ref 100, .int b], ⟨n, hG, hn, hM, hsp⟩ =>
    subst hG
    refine f_run_ok (stop := fun _ => false) hX 20 _ _ _ _ _ ?_
    refine And.intro (v9 0 (by decide)) ?_
    refine And.intro (f_nar _ (f_bz _)) ?_
    refine f_fin hsp ?_ rfl
    refine congrArg (fun z => some (Value.int (f_b z))) ?_
    show _ = decide (0 ≤ b ∧ b ≤ M.1 101 0 - 1)
    rw [hM]
    refine decide_eq_decide.mpr ⟨fun z => ⟨z.1, (f_lt_pred hn z.1).mpr z.2⟩, fun z => ⟨z.1, (f_lt_pred hn z.1).mp z.2⟩⟩
/-! within, longNow, cutsToMake -/
def S_wi : fSp := fun G As M R => match As with
  | [.int v, .int lo, .int hi] => ∃ a l h : Nat, v = nI a ∧ lo = nI l ∧ hi = nI h ∧ a < 2 ^ 31 ∧ l ≤ h ∧ h < 2 ^ 31 ∧ R G (some (.int (nI (max l (min h a))))) M
  | _ => False
theorem m_wi : f_Meets 3 kX12_within S_wi := by
  intro G As M R hsp X hX hW
  match As, hsp with
  | [.int v, .int lo, .int hi], ⟨a, l, h, hv, hl, hh, ha, hlh, hhb, hsp⟩ =>
    subst hv; subst hl; subst hh
    refine f_run_ok (stop := fun _ => false) hX 20 _ _ _ _ _ ?_
    refine And.intro (fun q => And.intro (fun q2 => ?_) (fun q2 => ?_)) (fun q => ?_)
    · have q := (nI_leI (by omega) ha).mp q
      have q2 := (nI_leI ha hhb).mp q2
      exact f_fin hsp (by rw [show max l (min h a) = a by omega]) rfl
    · have q2 : ¬ a ≤ h := fun z => q2 (nI_le z hhb)
      exact f_fin hsp (by rw [show max l (min h a) = h by omega]) rfl
    · have q : ¬ l ≤ a := fun z => q (nI_le z ha)
      exact f_fin hsp (by rw [show max l (min h a) = l by omega]) rfl
theorem f_HR.at {c : Nat} {y : fYd} {M : fMem} (h : f_HR c y M) : (M.1 c 6 = -1 ∧ y = (12, 2, [])) ∨ ∃ a l m : Nat, a < 5 ∧ M.1 c 6 = nI a ∧ M.1 c (191 + a) = nI l ∧ l < 100 ∧ max 2 (min 17 l) = y.1 ∧ M.1 c (196 + a) = nI m ∧ m < 100 ∧ max 1 (min 3 m) = y.2.1 ∧ f_SR c a (f_rsL y.2.2) M := by
  rcases h with h | ⟨a, l, m, h1, r⟩
  · exact Or.inl h
  · exact Or.inr ⟨a, l, m, h1.1, r⟩
theorem f_n1 {a : Nat} (h : a < 2 ^ 31) : ¬ nI a = -1 := by
  intro e
  have := congrArg Int32.toInt e
  rw [nI_toInt h, show (-1 : Int32).toInt = -1 by decide] at this
  omega
def S_lo : fSp := fun G As M R => match As with
  | [.ref 100] => ∃ y : fYd, G = f_GM ∧ f_HR 101 y M ∧ R G (some (.int (nI y.1))) M
  | _ => False
set_option maxRecDepth 20000 in
theorem m_lo : f_Meets 1 (kX12_longNow S_wi) S_lo := by
  intro G As M R hsp X hX hW
  match As, hsp with
  | [.ref 100], ⟨y, hG, hH, hsp⟩ =>
    subst hG
    refine f_run_ok (stop := fun _ => false) hX 30 _ _ _ _ _ ?_
    refine And.intro (v9 6 (by decide)) ?_
    rcases hH with ⟨h6, hy⟩ | ⟨a, l, m, ha, h6, hl, hl2, hly, hm, hm2, hmy, hS⟩
    · subst hy
      refine And.intro (fun _ => hsp) (fun z => absurd h6 z)
    · refine And.intro (fun z => absurd (h6.symm.trans z) (f_n1 (by omega))) (fun _ => ?_)
      have e : 191 + M.1 101 6 = nI (191 + a) := by rw [h6]; exact nI_add 191 a
      obtain ⟨i1, i2⟩ := f_ix (n := 906) e (by omega) (by omega)
      refine And.intro (v9 6 (by decide)) (And.intro i1 ?_)
      refine ⟨l, 2, 17, ?_, rfl, rfl, by omega, by omega, by omega, f_fin hsp (by rw [hly]) rfl⟩
      show M.1 101 (191 + M.1 101 6).toNatClampNeg = _
      rw [i2, hl]
def S_cu : fSp := fun G As M R => match As with
  | [.ref 100] => ∃ y : fYd, G = f_GM ∧ f_HR 101 y M ∧ R G (some (.int (nI y.2.1))) M
  | _ => False
set_option maxRecDepth 20000 in
theorem m_cu : f_Meets 1 (kX12_cutsToMake S_wi) S_cu := by
  intro G As M R hsp X hX hW
  match As, hsp with
  | [.ref 100], ⟨y, hG, hH, hsp⟩ =>
    subst hG
    refine f_run_ok (stop := fun _ => false) hX 30 _ _ _ _ _ ?_
    refine And.intro (v9 6 (by decide)) ?_
    rcases hH with ⟨h6, hy⟩ | ⟨a, l, m, ha, h6, hl, hl2, hly, hm, hm2, hmy, hS⟩
    · subst hy
      refine And.intro (fun _ => hsp) (fun z => absurd h6 z)
    · refine And.intro (fun z => absurd (h6.symm.trans z) (f_n1 (by omega))) (fun _ => ?_)
      have e : 196 + M.1 101 6 = nI (196 + a) := by rw [h6]; exact nI_add 196 a
      obtain ⟨i1, i2⟩ := f_ix (n := 906) e (by omega) (by omega)
      refine And.intro (v9 6 (by decide)) (And.intro i1 ?_)
      refine ⟨m, 1, 3, ?_, rfl, rfl, by omega, by omega, by omega, f_fin hsp (by rw [hmy]) rfl⟩
      show M.1 101 (196 + M.1 101 6).toNatClampNeg = _
      rw [i2, hm]
/-! count1, place -/
theorem f_cnt_one {P Q : Nat → Bool} {k : Nat} (h : ∀ x, x ≠ k → P x = Q x) (hp : P k = true) (hq : Q k = false) : ∀ n, f_cnt n P = f_cnt n Q + (if k < n then 1 else 0) := by
  intro n
  induction n with
  | zero => rw [if_neg (by omega)]; rfl
  | succ n ih =>
    show f_cnt n P + (if P n = true then 1 else 0) = f_cnt n Q + (if Q n = true then 1 else 0) + _
    rw [ih]
    by_cases e : n = k
    · subst e
      rw [hp, hq]; simp
    · rw [h n e]
      by_cases hk : k < n
      · rw [if_pos hk, if_pos (show k < n + 1 by omega)]; omega
      · rw [if_neg hk, if_neg (show ¬ k < n + 1 by omega)]; omega
/-- the lowest bit of a set, and the set without it -/
theorem f_low {n : Nat} (h0 : 0 < n) (hn : n < 2 ^ 17) : ∃ k, k < 17 ∧ n.testBit k = true ∧ (∀ x, x < k → n.testBit x = false) ∧ (∀ x, (n &&& (n - 1)).testBit x = (n.testBit x && decide (x ≠ k))) ∧ n &&& (n - 1) < 2 ^ 17 := by
  obtain ⟨k, m, hk⟩ := f_low_ex n h0
  have hb : ∀ i, n.testBit i = (decide (i = k) || (decide (k < i) && (2 ^ k * (2 * m)).testBit i)) := fun i => by rw [hk]; exact f_low_bits i
  have ha : n &&& (n - 1) = 2 ^ k * (2 * m) := by rw [hk]; exact f_low_and
  have hkb : n.testBit k = true := by rw [hb]; simp
  refine ⟨k, ?_, hkb, fun x hx => ?_, fun x => ?_, Nat.lt_of_le_of_lt Nat.and_le_left hn⟩
  · by_cases e : k < 17
    · exact e
    · have := Nat.testBit_lt_two_pow (x := n) (i := k) (Nat.lt_of_lt_of_le hn (Nat.pow_le_pow_right (by decide) (by omega)))
      rw [hkb] at this
      cases this
  · rw [hb]
    simp [show ¬ x = k by omega, show ¬ k < x by omega]
  · rw [ha, hb]
    by_cases h1 : x = k
    · subst h1
      rw [Nat.testBit_two_pow_mul]
      have : (2 * m) % 2 = 0 := by omega
      simp [Nat.testBit_zero, this]
    · by_cases h2 : k < x
      · simp [h1, h2]
      · rw [Nat.testBit_two_pow_mul]
        simp [h1, h2, show ¬ k ≤ x by omega]
theorem f_pc_low {n : Nat} (h0 : 0 < n) (hn : n < 2 ^ 17) : f_pc n = f_pc (n &&& (n - 1)) + 1 := by
  obtain ⟨k, h1, h2, h3, h4, h5⟩ := f_low h0 hn
  have := f_cnt_one (P := fun x => n.testBit x) (Q := fun x => (n &&& (n - 1)).testBit x) (k := k) (fun x hx => by show n.testBit x = (n &&& (n - 1)).testBit x; rw [h4]; simp [hx]) h2 (by show (n &&& (n - 1)).testBit k = false; rw [h4]; simp) 17
  rw [if_pos h1] at this
  exact this
def S_cnt : fSp := fun G As M R => match As with
  | [.int z] => ∃ n : Nat, z = nI n ∧ n < 2 ^ 17 ∧ R G (some (.int (nI (f_pc n)))) M
  | _ => False
theorem f_pc_0 : f_pc 0 = 0 := by decide +kernel
theorem m_cnt : f_Meets 3 kX12_count1 S_cnt := by
  intro G As M R hsp X hX hW
  match As, hsp with
  | [.int z], ⟨n, hz, hn, hsp⟩ =>
    subst hz
    have loop : ∀ (t L j : Nat), f_pc L ≤ t → L < 2 ^ 17 → j + f_pc L = f_pc n → X G 4 [some (.int (nI n)), some (.int (nI j)), some (.int (nI L))] [] M := by
      intro t
      induction t with
      | zero =>
        intro L j ht hL hj
        have h0 : L = 0 := by
          rcases Nat.eq_zero_or_pos L with h | h
          · exact h
          · have := f_pc_low h hL; omega
        subst h0
        refine f_run_ok (stop := fun _ => false) hX 20 _ _ _ _ _ ?_
        refine And.intro (fun _ => f_fin hsp (by rw [← hj, f_pc_0]; rfl) rfl) (fun z => absurd rfl z)
      | succ t ih =>
        intro L j ht hL hj
        refine f_run_ok (stop := fun q => Nat.beq q 4) hX 20 _ _ _ _ _ ?_
        refine And.intro (fun h => ?_) (fun h => ?_)
        · have h0 := (nI_eq (b := 0) (by omega) (by omega)).mp h
          subst h0
          exact f_fin hsp (by rw [← hj, f_pc_0]; rfl) rfl
        · have h0 : ¬ L = 0 := fun z => h (by rw [z]; rfl)
          have hp := f_pc_low (by omega) hL
          have q := ih (L &&& (L - 1)) (j + 1) (by omega) (Nat.lt_of_le_of_lt Nat.and_le_left hL) (by omega)
          have e : nI L - 1 = nI (L - 1) := pk_sub (b := 1) (by omega)
          rw [← fa_and, ← e, nI_succ] at q
          exact q
    refine f_run_ok (stop := fun q => Nat.beq q 4) hX 20 _ _ _ _ _ ?_
    exact loop (f_pc n) n 0 (Nat.le_refl _) hn (Nat.zero_add _)
theorem f_nth_cg {S T : Nat} : ∀ (n j r : Nat), (∀ x, j ≤ x → S.testBit x = T.testBit x) → f_nth S n j r = f_nth T n j r := by
  intro n
  induction n with
  | zero => intro j r _; rfl
  | succ n ih =>
    intro j r h
    unfold f_nth
    rw [h j (Nat.le_refl _), ih (j + 1) (r - 1) (fun x hx => h x (by omega)), ih (j + 1) r (fun x hx => h x (by omega))]
theorem f_nth_low {S T k : Nat} (hk : S.testBit k = true) (hlo : ∀ x, x < k → S.testBit x = false) (hT : ∀ x, T.testBit x = (S.testBit x && decide (x ≠ k))) : ∀ (n j r : Nat), j ≤ k → k < j + n → f_nth S n j (r + 1) = f_nth T n j r := by
  intro n
  induction n with
  | zero => intro j r h1 h2; omega
  | succ n ih =>
    intro j r h1 h2
    unfold f_nth
    by_cases e : j = k
    · subst e
      have ht : ¬ T.testBit j = true := by rw [hT]; simp
      rw [if_pos hk, if_neg (by omega), if_neg ht, Nat.add_sub_cancel]
      exact f_nth_cg n (j + 1) r (fun x hx => by rw [hT]; simp [show ¬ x = j by omega])
    · have hs : ¬ S.testBit j = true := by rw [hlo j (by omega)]; decide
      have ht : ¬ T.testBit j = true := by rw [hT, hlo j (by omega)]; simp
      rw [if_neg hs, if_neg ht]
      exact ih (j + 1) r (by omega) (by omega)
def S_plc : fSp := fun G As M R => match As with
  | [.int z, .int y] => ∃ S k : Nat, z = nI S ∧ S < 2 ^ 17 ∧ y = nI k ∧ k < f_pc S ∧ R G (some (.int (nI (f_nth S 17 0 k)))) M
  | _ => False
theorem m_plc : f_Meets 4 kX12_place S_plc := by
  intro G As M R hsp X hX hW
  match As, hsp with
  | [.int z, .int y], ⟨S, k, hz, hS, hy, hk, hsp⟩ =>
    subst hz; subst hy
    have hk17 : f_pc S ≤ 17 := f_cnt_le _ 17
    have loop2 : ∀ (n L j : Nat), n + j = 17 → L < 2 ^ 17 → 0 < f_cr L n j → f_nth L n j 0 = f_nth S 17 0 k → X G 23 [some (.int (nI S)), some (.int (nI k)), some (.int (nI L)), some (.int (nI j))] [] M := by
      intro n
      induction n with
      | zero => intro L j _ _ h; exact absurd h (Nat.lt_irrefl 0)
      | succ n ih =>
        intro L j hj hL hc he
        refine f_run_ok (stop := fun q => Nat.beq q 23) hX 20 _ _ _ _ _ ?_
        have eb := n_sb (n := L) (k := j) (by omega) (by omega)
        have hc : 0 < (if L.testBit j = true then 1 else 0) + f_cr L n (j + 1) := hc
        have he : (if L.testBit j = true then (if 0 = 0 then j else f_nth L n (j + 1) (0 - 1)) else f_nth L n (j + 1) 0) = f_nth S 17 0 k := he
        refine And.intro (fun h => ?_) (fun h => ?_)
        · have h : nI L >>> (nI j &&& 31) &&& 1 = 0 := h
          rw [eb] at h
          have h := f_b0.mp h
          rw [if_neg (by rw [h]; decide)] at he hc
          have q := ih L (j + 1) (by omega) hL (by omega) he
          rw [nI_succ j] at q
          exact q
        · have h : ¬ nI L >>> (nI j &&& 31) &&& 1 = 0 := h
          rw [eb] at h
          have h := f_b_nt h
          rw [if_pos h, if_pos rfl] at he
          exact f_fin hsp (by rw [← he]) rfl
    have loop : ∀ (r L j : Nat), r + j = k → L < 2 ^ 17 → r < f_pc L → f_nth L 17 0 r = f_nth S 17 0 k → X G 4 [some (.int (nI S)), some (.int (nI k)), some (.int (nI L)), some (.int (nI j))] [] M := by
      intro r
      induction r with
      | zero =>
        intro L j hj hL hr he
        refine f_run_ok (stop := fun q => Nat.beq q 23) hX 20 _ _ _ _ _ ?_
        refine And.intro (fun _ => ?_) (fun z => absurd (nI_le (by omega) (by omega)) z)
        exact loop2 17 L 0 rfl hL (by rw [f_cr_pc]; exact hr) he
      | succ r ih =>
        intro L j hj hL hr he
        refine f_run_ok (stop := fun q => Nat.beq q 4) hX 20 _ _ _ _ _ ?_
        refine And.intro (fun z => absurd ((nI_leI (by omega) (by omega)).mp z) (by omega)) (fun _ => ?_)
        have h0 : 0 < L := by
          rcases Nat.eq_zero_or_pos L with h | h
          · subst h; rw [f_pc_0] at hr; omega
          · exact h
        have hp := f_pc_low h0 hL
        obtain ⟨b, g1, g2, g3, g4, g5⟩ := f_low h0 hL
        have q := ih (L &&& (L - 1)) (j + 1) (by omega) g5 (by omega) (by rw [← he]; exact (f_nth_low g2 g3 g4 17 0 r (by omega) (by omega)).symm)
        have e : nI L - 1 = nI (L - 1) := pk_sub (b := 1) (by omega)
        rw [← fa_and, ← e, nI_succ j] at q
        exact q
    refine f_run_ok (stop := fun q => Nat.beq q 4) hX 20 _ _ _ _ _ ?_
    exact loop k S 0 rfl hS hk rfl
/-! closes, isUnder, longOf -/
theorem m_cls3 : f_Meets 3 kX12_closes S_closing := by
  intro G As M R hsp X hX hW
  match As, hsp with
  | [.int x, .int y, .int z], ⟨a, b, c, hx, hy, hz, ha, hb, hc, hsp⟩ =>
    subst hx; subst hy; subst hz
    have le : ∀ u v w : Nat, u < 1000 → v < 1000 → w < 1000 → (nI u + nI v ≤ nI w ↔ u + v ≤ w) := fun u v w h1 h2 h3 => by rw [nI_add]; exact nI_leI (by omega) (by omega)
    refine f_run_ok (stop := fun _ => false) hX 30 _ _ _ _ _ ?_
    refine And.intro (fun h => ?_) (fun h => And.intro (fun h2 => ?_) (fun h2 => And.intro (fun h3 => ?_) (fun h3 => ?_)))
    · have h := (le b c a hb hc ha).mp h
      refine And.intro rfl (f_fin hsp ?_ rfl)
      have e : f_clz a b c = false := by unfold f_clz; simp; intro _ _; omega
      rw [e]; rfl
    · have h2 := (le a c b ha hc hb).mp h2
      refine And.intro rfl (f_fin hsp ?_ rfl)
      have e : f_clz a b c = false := by unfold f_clz; simp; intro _ _; omega
      rw [e]; rfl
    · have h3 := (le a b c ha hb hc).mp h3
      refine And.intro rfl (f_fin hsp ?_ rfl)
      have e : f_clz a b c = false := by unfold f_clz; simp; intro _ _; omega
      rw [e]; rfl
    · have h : ¬ b + c ≤ a := fun q => h ((le b c a hb hc ha).mpr q)
      have h2 : ¬ a + c ≤ b := fun q => h2 ((le a c b ha hc hb).mpr q)
      have h3 : ¬ a + b ≤ c := fun q => h3 ((le a b c ha hb hc).mpr q)
      refine And.intro rfl (f_fin hsp ?_ rfl)
      have e : f_clz a b c = true := by unfold f_clz; simp; omega
      rw [e]; rfl
def S_und : fSp := fun G As M R => match As with
  | [.int x, .int y] => ∃ kd k : Nat, x = nI kd ∧ y = nI k ∧ kd < 7 ∧ k < 7 ∧ R G (some (.int (f_b (f_und kd k)))) M
  | _ => False
theorem m_und : f_Meets 2 kX12_isUnder S_und := by
  intro G As M R hsp X hX hW
  match As, hsp with
  | [.int x, .int y], ⟨kd, k, hx, hy, hkd, hk, hsp⟩ =>
    subst hx; subst hy
    have yes : f_und kd k = true → X G 25 [some (.int (nI kd)), some (.int (nI k))] [] M := fun h => by
      rw [h] at hsp
      exact f_run_ok (stop := fun _ => false) hX 10 _ _ _ _ _ (And.intro rfl hsp)
    have no : f_und kd k = false → X G 29 [some (.int (nI kd)), some (.int (nI k))] [] M := fun h => by
      rw [h] at hsp
      exact f_run_ok (stop := fun _ => false) hX 10 _ _ _ _ _ (And.intro rfl hsp)
    refine f_run_ok (stop := fun q => Nat.beq q 25 || Nat.beq q 29) hX 30 _ _ _ _ _ ?_
    refine And.intro (fun h => ?_) (fun h => And.intro (fun h2 => ?_) (fun h2 => And.intro (fun h3 => ?_) (fun h3 => And.intro (fun h4 => ?_) (fun h4 => And.intro (fun h5 => ?_) (fun h5 => ?_)))))
    · exact yes (decide_eq_true (Or.inl ((nI_eq (b := 0) (by omega) (by omega)).mp h)))
    · exact yes (decide_eq_true (Or.inr (Or.inl ((nI_eq (by omega) (by omega)).mp h2))))
    · have h : ¬ k = 0 := fun z => h (by rw [z]; rfl)
      have h3 := (nI_leI (b := 0) (by omega) (by omega)).mp h3
      omega
    · have h : ¬ k = 0 := fun z => h (by rw [z]; rfl)
      have h2 : ¬ k = kd := fun z => h2 (by rw [z])
      have h4 := (nI_leI (a := 4) (by omega) (by omega)).mp h4
      exact no (decide_eq_false (by omega))
    · have h5 : nI kd = nI k + 3 := h5
      rw [show nI k + 3 = nI (k + 3) from nI_add k 3] at h5
      have h5 := (nI_eq (by omega) (by omega)).mp h5
      have h : ¬ k = 0 := fun z => h (by rw [z]; rfl)
      have h4 : ¬ 4 ≤ k := fun z => h4 (nI_le (a := 4) z (by omega))
      exact yes (decide_eq_true (by omega))
    · have h5 : ¬ nI kd = nI k + 3 := h5
      rw [show nI k + 3 = nI (k + 3) from nI_add k 3] at h5
      have h5 : ¬ kd = k + 3 := fun z => h5 (by rw [z])
      have h : ¬ k = 0 := fun z => h (by rw [z]; rfl)
      have h2 : ¬ k = kd := fun z => h2 (by rw [z])
      exact no (decide_eq_false (by omega))
def S_lof : fSp := fun G As M R => match As with
  | [.ref 100, .int z] => ∃ k f t : Nat, G = f_GM ∧ z = nI k ∧ k < 17 ∧ M.1 105 k = nI f ∧ M.1 106 k = nI t ∧ f ≤ t ∧ R G (some (.int (nI (t - f)))) M
  | _ => False
theorem m_lof : f_Meets 2 kX12_longOf S_lof := by
  intro G As M R hsp X hX hW
  match As, hsp with
  | [.ref 100, .int z], ⟨k, f, t, hG, hz, hk, hf, ht, hft, hsp⟩ =>
    subst hG; subst hz
    obtain ⟨i1, i2⟩ := f_ix (z := nI k) (n := 17) rfl hk (by omega)
    refine f_run_ok (stop := fun _ => false) hX 30 _ _ _ _ _ ?_
    refine And.intro i1 (And.intro i1 (f_fin hsp ?_ rfl))
    show _ = some (Value.int (M.1 106 (nI k).toNatClampNeg - M.1 105 (nI k).toNatClampNeg))
    rw [i2, hf, ht, pk_sub hft]
