/-! ===== THE FRAME: a machine of plain values over a fixed row of cells; what is shown of it holds of the bytecode ===== -/
abbrev fMem : Type := (Nat → Nat → Int32) × (Nat → Nat → Int64)
abbrev fG : Type := Nat × (Nat → Nat → Value)
abbrev fL : Type := List (Option Value)
abbrev fK : Type := fG → Nat → fL → List Value → fMem → Prop
abbrev fR : Type := fG → Option Value → fMem → Prop
abbrev fTr : Type := fR → fK → fG → fL → List Value → fMem → Prop
abbrev fSp : Type := fG → List Value → fMem → fR → Prop
def f_cv (ad : Nat → Nat) (v : Value) : Value := match v with
  | .ref j => .ref (ad j)
  | w => w
def f_lget : fL → Nat → Option Value
  | [], _ => none
  | a :: _, 0 => a
  | _ :: l, n + 1 => f_lget l n
def f_two : Option Value → Bool
  | some v => Nat.beq v.category 2
  | none => false
def f_lset : fL → Nat → Option Value → fL
  | [], _, _ => []
  | _ :: l, 0, v => v :: l
  | a :: l, n + 1, v => (bif (Nat.beq n 0 && f_two a) then none else a) :: f_lset l n v
def f_lclr : fL → Nat → fL
  | [], _ => []
  | _ :: l, 0 => none :: l
  | a :: l, n + 1 => a :: f_lclr l n
def f_args : List Value → fL
  | [] => []
  | v :: l => some v :: (bif f_two (some v) then none :: f_args l else f_args l)
def f_entry (vs : List Value) (n : Nat) : fL := f_args vs ++ List.replicate (n - (f_args vs).length) none
def f_le : fL → fL → Prop
  | [], _ => True
  | none :: l, [] => f_le l []
  | some _ :: _, [] => False
  | none :: l, _ :: k => f_le l k
  | some v :: l, o :: k => o = some v ∧ f_le l k
theorem f_cv_cat (ad : Nat → Nat) (v : Value) : (f_cv ad v).category = v.category := by cases v <;> rfl
theorem f_lget_set : ∀ (ls : fL) (i : Nat) (o : Option Value) (j : Nat) (w : Value), f_lget (f_lset ls i o) j = some w → (j = i ∧ o = some w) ∨ (j ≠ i ∧ f_lget ls j = some w ∧ ¬ (j + 1 = i ∧ w.category = 2)) := by
  intro ls
  induction ls with
  | nil => intro i o j w h; simp [f_lset, f_lget] at h
  | cons a l ih =>
    intro i o j w h
    cases i with
    | zero =>
      cases j with
      | zero => exact Or.inl ⟨rfl, h⟩
      | succ j => exact Or.inr ⟨by omega, h, by omega⟩
    | succ n =>
      cases j with
      | zero =>
        refine Or.inr ⟨by omega, ?_⟩
        change (bif (Nat.beq n 0 && f_two a) then none else a) = some w at h
        cases hb : (Nat.beq n 0 && f_two a) with
        | true => rw [hb] at h; cases h
        | false =>
          rw [hb] at h
          refine ⟨h, fun q => ?_⟩
          have hn : n = 0 := by omega
          have ha : a = some w := h
          subst hn; subst ha
          simp [f_two, q.2] at hb
      | succ j =>
        rcases ih n o j w h with ⟨h1, h2⟩ | ⟨h1, h2, h3⟩
        · exact Or.inl ⟨by omega, h2⟩
        · exact Or.inr ⟨by omega, h2, fun q => h3 ⟨by omega, q.2⟩⟩
theorem f_lget_clr : ∀ (ls : fL) (i j : Nat) (w : Value), f_lget (f_lclr ls i) j = some w → j ≠ i ∧ f_lget ls j = some w := by
  intro ls
  induction ls with
  | nil => intro i j w h; simp [f_lclr, f_lget] at h
  | cons a l ih =>
    intro i j w h
    cases i with
    | zero =>
      cases j with
      | zero => simp [f_lclr, f_lget] at h
      | succ j => exact ⟨by omega, h⟩
    | succ n =>
      cases j with
      | zero => exact ⟨by omega, h⟩
      | succ j => obtain ⟨h1, h2⟩ := ih n j w h; exact ⟨by omega, h2⟩
theorem f_le_get : ∀ (l k : fL), f_le l k → ∀ i v, f_lget l i = some v → f_lget k i = some v := by
  intro l
  induction l with
  | nil => intro k _ i v h; simp [f_lget] at h
  | cons a l ih =>
    intro k hk i v h
    cases k with
    | nil =>
      cases a with
      | some w => exact hk.elim
      | none =>
        cases i with
        | zero => simp [f_lget] at h
        | succ i => have := ih [] hk i v h; simp [f_lget] at this
    | cons b k =>
      cases a with
      | none =>
        cases i with
        | zero => simp [f_lget] at h
        | succ i => exact ih k hk i v h
      | some w =>
        cases i with
        | zero => change some w = some v at h; change b = some v; rw [hk.1, h]
        | succ i => exact ih k hk.2 i v h
/-- the machine's locals hold the plain ones -/
def f_LH (ad : Nat → Nat) (lsA : Array Slot) (nL : Nat) (ls : fL) : Prop := lsA.size = nL ∧ lv_wf lsA ∧ ∀ i v, f_lget ls i = some v → lsA[i]? = some (.val (f_cv ad v))
def f_ent (ad : Nat → Nat) (ls : fL) : List (Nat × Value) := (List.range ls.length).filterMap (fun i => (f_lget ls i).map (fun v => (i, f_cv ad v)))
theorem f_lget_lt : ∀ (ls : fL) (i : Nat) (v : Value), f_lget ls i = some v → i < ls.length := by
  intro ls
  induction ls with
  | nil => intro i v h; simp [f_lget] at h
  | cons a l ih =>
    intro i v h
    cases i with
    | zero => simp
    | succ i => have := ih i v h; simp; omega
theorem f_ent_mem {ad : Nat → Nat} {ls : fL} {i : Nat} {v : Value} (h : f_lget ls i = some v) : (i, f_cv ad v) ∈ f_ent ad ls :=
  List.mem_filterMap.mpr ⟨i, List.mem_range.mpr (f_lget_lt _ _ _ h), by rw [h]; rfl⟩
theorem f_ent_of {ad : Nat → Nat} {ls : fL} {q : Nat × Value} (h : q ∈ f_ent ad ls) : ∃ v, f_lget ls q.1 = some v ∧ q.2 = f_cv ad v := by
  obtain ⟨i, -, hi⟩ := List.mem_filterMap.mp h
  cases hv : f_lget ls i with
  | none => rw [hv] at hi; cases hi
  | some v => rw [hv] at hi; cases hi; exact ⟨v, hv, rfl⟩
theorem f_LH.has {ad : Nat → Nat} {lsA : Array Slot} {nL : Nat} {ls : fL} (h : f_LH ad lsA nL ls) : lv_has lsA nL (f_ent ad ls) :=
  ⟨h.1, h.2.1, fun q hq => by obtain ⟨v, h1, h2⟩ := f_ent_of hq; rw [h2]; exact h.2.2 _ _ h1⟩
theorem f_LH.st1 {ad : Nat → Nat} {lsB : Array Slot} {nL : Nat} {ls : fL} {i : Nat} {v : Value} (h : lv_has lsB nL ((i, f_cv ad v) :: (f_ent ad ls).filter (fun q => !(q.1 == i) && !(q.1 + 1 == i && q.2.category == 2)))) : f_LH ad lsB nL (f_lset ls i (some v)) := by
  refine ⟨h.1, h.2.1, fun j w hj => ?_⟩
  rcases f_lget_set ls i (some v) j w hj with ⟨h1, h2⟩ | ⟨h1, h2, h3⟩
  · subst h1; cases h2
    exact h.2.2 (j, f_cv ad v) List.mem_cons_self
  · refine h.2.2 (j, f_cv ad w) (List.mem_cons_of_mem _ (List.mem_filter.mpr ⟨f_ent_mem h2, ?_⟩))
    rw [f_cv_cat]
    simp [h1]
    omega
theorem f_LH.st2 {ad : Nat → Nat} {lsB : Array Slot} {nL : Nat} {ls : fL} {i : Nat} {v : Value} (h : lv_has lsB nL ((i, f_cv ad v) :: (f_ent ad ls).filter (fun q => !(q.1 == i) && (!(q.1 == i + 1) && !(q.1 + 1 == i && q.2.category == 2))))) : f_LH ad lsB nL (f_lset (f_lclr ls (i + 1)) i (some v)) := by
  refine ⟨h.1, h.2.1, fun j w hj => ?_⟩
  rcases f_lget_set _ i (some v) j w hj with ⟨h1, h2⟩ | ⟨h1, h2, h3⟩
  · subst h1; cases h2
    exact h.2.2 (j, f_cv ad v) List.mem_cons_self
  · obtain ⟨h4, h5⟩ := f_lget_clr _ _ _ _ h2
    refine h.2.2 (j, f_cv ad w) (List.mem_cons_of_mem _ (List.mem_filter.mpr ⟨f_ent_mem h5, ?_⟩))
    rw [f_cv_cat]
    simp [h1, h4]
    omega
theorem f_LH.le {ad : Nat → Nat} {lsA : Array Slot} {nL : Nat} {l k : fL} (h : f_LH ad lsA nL k) (hl : f_le l k) : f_LH ad lsA nL l := ⟨h.1, h.2.1, fun i v hv => h.2.2 i v (f_le_get l k hl i v hv)⟩
/-! cells -/
def f_up (f : Nat → Nat → Int32) (c k : Nat) (v : Int32) : Nat → Nat → Int32 := fun a b => if a = c then (if b = k then v else f a b) else f a b
def f_upL (f : Nat → Nat → Int64) (c k : Nat) (v : Int64) : Nat → Nat → Int64 := fun a b => if a = c then (if b = k then v else f a b) else f a b
def f_upR (f : Nat → Nat → Value) (c k : Nat) (v : Value) : Nat → Nat → Value := fun a b => if a = c then (if b = k then v else f a b) else f a b
def f_fv (ad : Nat → Nat) (G : fG) (M : fMem) (c k : Nat) : Nat → Value
  | 0 => .int (M.1 c k)
  | 1 => .long (M.2 c k)
  | _ => f_cv ad (G.2 c k)
def f_cell (ad : Nat → Nat) (cA : Nat → ClassId) (G : fG) (M : fMem) (c : Nat) : va_E := match f_sh c with
  | .inl (k, n) => .inl (cA k, n, match k with
    | 1 => .inr (.inl (M.2 c))
    | _ => .inl (M.1 c))
  | .inr (.inl ci) => .inr (ci, (List.range (f_nf ci)).map (fun k => f_fv ad G M c k (f_fk ci k)))
  | _ => .inr (0, [])
def f_P (D : va_G) (cA : Nat → ClassId) (ad : Nat → Nat) (lo : Nat) (G : fG) (M : fMem) (H : Heap) : Prop := ∀ c, lo ≤ c → c < G.1 → va_at D vwCl (ad c, f_cell ad cA G M c) H
def f_A (lo hi : Nat) (ad : Nat → Nat) (sz : Nat) : Nat → Prop := fun q => (∃ c, lo ≤ c ∧ c < hi ∧ q = ad c) ∨ sz ≤ q
/-- where the cells lie: the old ones apart and below sz, the coming ones from sz on -/
def f_Ad (lo hi sz : Nat) (ad : Nat → Nat) : Prop := (∀ c, hi ≤ c → c < lo + 90 → ad c = sz + (c - hi)) ∧ (∀ c, lo ≤ c → c < hi → ad c < sz) ∧ ∀ c d, lo ≤ c → c < hi → lo ≤ d → d < hi → ad c = ad d → c = d
theorem f_Ad.grow {lo hi sz n : Nat} {ad : Nat → Nat} (h : f_Ad lo hi sz ad) (h1 : lo ≤ hi) (hn : hi ≤ n) (hb : n ≤ lo + 90) : f_Ad lo n (sz + (n - hi)) ad := by
  obtain ⟨a1, a2, a3⟩ := h
  refine ⟨fun c q1 q2 => ?_, fun c q1 q2 => ?_, fun c d q1 q2 q3 q4 e => ?_⟩
  · rw [a1 c (by omega) q2]; omega
  · by_cases hc : c < hi
    · have := a2 c q1 hc; omega
    · rw [a1 c (by omega) (by omega)]; omega
  · by_cases hc : c < hi
    · by_cases hd : d < hi
      · exact a3 c d q1 hc q3 hd e
      · have e1 := a1 d (by omega) (by omega)
        have e2 := a2 c q1 hc
        omega
    · have e1 := a1 c (by omega) (by omega)
      by_cases hd : d < hi
      · have e2 := a2 d q3 hd
        omega
      · have e2 := a1 d (by omega) (by omega)
        omega
theorem f_A.sub {lo hi sz n : Nat} {ad : Nat → Nat} (h : f_Ad lo hi sz ad) (h1 : lo ≤ hi) (hn : hi ≤ n) (hb : n ≤ lo + 90) (q : Nat) (hq : f_A lo n ad (sz + (n - hi)) q) : f_A lo hi ad sz q := by
  rcases hq with ⟨c, q1, q2, rfl⟩ | hq
  · by_cases hc : c < hi
    · exact Or.inl ⟨c, q1, hc, rfl⟩
    · rw [h.1 c (by omega) (by omega)]
      exact Or.inr (by omega)
  · exact Or.inr (by omega)
def f_tys (cA : Nat → ClassId) : List (ClassId × FieldType) := [(cA 0, .int), (cA 1, .long), (cA 2, .boolean)]
def f_sl (a : Nat) : Nat → Nat
  | 0 => 0
  | n + 1 => f_sl a n + f_sz (a + n)
theorem f_sl_add (a m : Nat) : ∀ n, f_sl a (m + n) = f_sl a m + f_sl (a + m) n := by
  intro n
  induction n with
  | zero => rfl
  | succ n ih =>
    show f_sl a (m + n) + f_sz (a + (m + n)) = f_sl a m + (f_sl (a + m) n + f_sz (a + m + n))
    rw [ih, Nat.add_assoc a m n]; omega
/-- what stays at the start of every method: nest mates, tables, texts -/
def f_St (ad : Nat → Nat) (A : Nat → Prop) (U : State) (H : Heap) : Prop :=
  (∀ q ∈ f_NWf, va_Nw (.fieldLinkNest q.1 q.2.1 q.2.2.1 q.2.2.2.1 q.2.2.2.2.1 q.2.2.2.2.2) U) ∧
  (∀ q ∈ f_NWm, va_Nw (.methodLinkNest q.1 q.2.1 q.2.2.1 q.2.2.2) U) ∧
  (∀ q ∈ f_tabs, va_Z q.2.1 q.2.2.1 "[I" (.ref (ad q.1)) A U H ∧ va_T .int (ad q.1) q.2.2.2.1 (fun j => .int (q.2.2.2.2 j)) A U H) ∧
  va_Z "java/lang/String" "COMPACT_STRINGS" "Z" (.int 1) A U H ∧ va_Zq "jdk/internal/util/Preconditions" "SIOOBE_FORMATTER" "Ljava/util/function/BiFunction;" A U H ∧
  vk_S 6 f_slen f_sbyt (fun i => ad (2000 + i)) (fun i => ad (2100 + i)) A U H ∧
  (∀ q ∈ f_ldcs, vk_R q.1 q.2.1 q.2.2.1 (ad (2000 + q.2.2.2)) U)
theorem va_Nw.sameF {w : Cond} (hw : w.onTables = true) {u U : State} (h : U.vm = u.vm) (hZ : va_Nw w u) : va_Nw w U := va_Nw.same hw h.symm hZ
theorem f_St.same {ad : Nat → Nat} {A : Nat → Prop} {u U : State} {H : Heap} (hv : U.vm = u.vm) (h : f_St ad A u H) : f_St ad A U H := by
  obtain ⟨h1, h2, h3, h4, h5, h6, h7⟩ := h
  have hA : u.vm.Alike U.vm := by rw [hv]; exact Vm.Alike.refl _
  exact ⟨fun q hq => va_Nw.sameF rfl hv (h1 q hq), fun q hq => va_Nw.sameF rfl hv (h2 q hq), fun q hq => ⟨va_Z.moved hA (h3 q hq).1, va_T.moved hA (h3 q hq).2⟩, va_Z.moved hA h4, va_Zq.moved hA h5, vk_S.moved hA h6, fun q hq => vk_R.same hv (h7 q hq)⟩
theorem f_St.warm {ad : Nat → Nat} {A B : Nat → Prop} {s U : State} {H0 H : Heap} (hW : s.WarmedH U.vm) (hq : ∀ a : Nat, a < H0.size → ¬ A a → H[a]? = H0[a]?) (hAB : ∀ q, B q → A q) (h : f_St ad A s H0) : f_St ad B U H := by
  obtain ⟨h1, h2, h3, h4, h5, h6, h7⟩ := h
  have hA : s.vm.Alike U.vm := hW.alike
  exact ⟨fun q z => va_Nw.warmF hW (h1 q z), fun q z => va_Nw.warmM hW (h2 q z), fun q z => ⟨((va_Z.moved hA (h3 q z).1).kept hq).narrow hAB, ((va_T.moved hA (h3 q z).2).kept hq).narrow hAB⟩, ((va_Z.moved hA h4).kept hq).narrow hAB, ((va_Zq.moved hA h5).kept hq).narrow hAB, ((vk_S.moved hA h6).kept hq).narrow hAB, fun q z => vk_R.warm hW (h7 q z)⟩
/-! contracts -/
def f_cats : List Value → Nat
  | [] => 0
  | v :: l => v.category + f_cats l
def f_ws (y : MethodName) (bt : ByteArray) (maxL : Nat) (ret : Option FieldType) : List Cond := Cond.code y bt maxL ret :: f_GW
def f_rm (h : Nat) (mc ms : Nat) : Room := { frames := h, cells := mc, slots := ms, locals := 64 * h }
def f_Q (D : va_G) (cA : Nat → ClassId) (ad : Nat → Nat) (lo hi sz mc : Nat) (R : fR) (A : Nat → Prop) : Array Value → State → Outcome → State → Prop := fun _ st oc t =>
  ∃ (G : fG) (v : Option Value) (M : fMem), oc = .returned (v.map (f_cv ad)) ∧ R G v M ∧ G.1 = hi + mc ∧ t.heap.size = sz + mc ∧ f_P D cA ad lo G M t.heap ∧ va_F A st t
def f_Pre (D : va_G) (cA : Nat → ClassId) (ad : Nat → Nat) (lo sz : Nat) (G : fG) (M : fMem) (As : List Value) : Array Value → State → Prop := va_Pc (As.map (f_cv ad)) (fun U => U.heap.size = sz ∧ f_P D cA ad lo G M U.heap ∧ va_K D vwCl (f_tys cA) U ∧ f_St ad (f_A lo G.1 ad sz) U U.heap)
/-- the contract of a method: from every memory that its saying allows, it comes to an end that the saying tells; h: how many calls may stand open, mc: how many cells it makes -/
def f_Con (lo h mc : Nat) (y : MethodName) (bt : ByteArray) (maxL : Nat) (ret : Option FieldType) (sp : fSp) : Prop :=
  ∀ (l : Launch) (D : va_G) (cA : Nat → ClassId) (ad : Nat → Nat) (sz : Nat) (G : fG) (As : List Value) (M : fMem) (R : fR), sp G As M R → f_cats As ≤ maxL → lo ≤ G.1 → G.1 + mc ≤ lo + 90 → f_Ad lo G.1 sz ad →
    Met l y (f_ws y bt maxL ret) (f_rm h mc (f_sl G.1 mc)) (f_Pre D cA ad lo sz G M As) (f_Q D cA ad lo G.1 sz mc R (f_A lo G.1 ad sz)) mc (f_sl G.1 mc) (f_A lo G.1 ad sz)
/-- what holds all through a method's body -/
def f_B (p : Program) (s : State) (m : MethodId) (args : Array Value) (meth : Method) (c : Code) (own : String) (y : MethodName) (bt : ByteArray) (maxL : Nat) (ret : Option FieldType) (lo hi mc sz : Nat) (D : va_G) (cA : Nat → ClassId) (ad : Nat → Nat) : Prop :=
  p.tables.exec = Jvm.exec ∧ c.code = bt ∧ c.maxLocals = maxL ∧ meth.sig.returnType = ret ∧ s.vm.findClass own = some m.cls ∧ (∀ w ∈ f_ws y bt maxL ret, w.before args s = true) ∧ meth.locks = false ∧ meth.name = y.name ∧ s.heap.size = sz ∧ va_K D vwCl (f_tys cA) s ∧ f_St ad (f_A lo hi ad sz) s s.heap ∧ f_Ad lo hi sz ad ∧ lo ≤ hi ∧ hi + mc ≤ lo + 90
/-- the goal at a place of the body -/
def f_X (p : Program) (l : Launch) (e : Env) (s : State) (m : MethodId) (args : Array Value) (below : List Frame) (meth : Method) (c : Code) (maxL lo hi h mc sz : Nat) (D : va_G) (cA : Nat → ClassId) (ad : Nat → Nat) (R : fR) : fK := fun G pc ls st M =>
  ∀ (H : Heap) (locs : List Loc) (lsA : Array Slot), f_LH ad lsA maxL ls → hi ≤ G.1 → G.1 ≤ hi + mc → H.size = sz + (G.1 - hi) → f_P D cA ad lo G M H → va_S (f_A lo hi ad sz) s.heap H locs →
    W p l e (f_rm h mc (f_sl hi mc)) s m args below meth c H locs (G.1 - hi) (f_sl hi (G.1 - hi)) (MQ below (f_Q D cA ad lo hi sz mc R (f_A lo hi ad sz)) args s mc (f_sl hi mc) (f_A lo hi ad sz)) (F0 m pc lsA (st.map (f_cv ad)))
/-- an instruction's saying is sound at a place -/
def f_Snd (X : fK) (R : fR) (pc : Nat) (t : fTr) : Prop := ∀ K : fK, (∀ G q ls st M, K G q ls st M → X G q ls st M) → ∀ G ls st M, t R K G ls st M → X G pc ls st M
def f_Wk (X : fK) : Prop := ∀ G pc ls ls' st M, f_le ls' ls → X G pc ls' st M → X G pc ls st M
def f_Meets (maxL : Nat) (code : Nat → fTr) (sp : fSp) : Prop := ∀ G As M R, sp G As M R → ∀ X : fK, (∀ pc, f_Snd X R pc (code pc)) → f_Wk X → X G 0 (f_entry As maxL) [] M
def tr_none : fTr := fun _ _ _ _ _ _ => False
theorem s_none {X : fK} {R : fR} {pc : Nat} : f_Snd X R pc tr_none := fun _ _ _ _ _ _ h => h.elim
/-- so many steps, or as far as a place where to stop -/
def f_run (code : Nat → fTr) (stop : Nat → Bool) (R : fR) (K : fK) : Nat → fK
  | 0 => K
  | n + 1 => fun G pc ls st M => code pc R (fun G' pc' ls' st' M' => bif stop pc' then K G' pc' ls' st' M' else f_run code stop R K n G' pc' ls' st' M') G ls st M
theorem f_run_ok {code : Nat → fTr} {stop : Nat → Bool} {R : fR} {X : fK} (hc : ∀ pc, f_Snd X R pc (code pc)) : ∀ n G pc ls st M, f_run code stop R X n G pc ls st M → X G pc ls st M := by
  intro n
  induction n with
  | zero => intro G pc ls st M h; exact h
  | succ n ih =>
    intro G pc ls st M h
    refine hc pc _ (fun G' q ls' st' M' hk => ?_) G ls st M h
    cases hs : stop q with
    | true => rw [hs] at hk; exact hk
    | false => rw [hs] at hk; exact ih _ _ _ _ _ hk
