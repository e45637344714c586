def bt (x : Int32) (i : Nat) : Bool := x.toBitVec.getLsbD i
theorem b_ext {x y : Int32} (h : ∀ i, i < 32 → bt x i = bt y i) : x = y := Int32.toBitVec_inj.mp (BitVec.eq_of_getLsbD_eq (fun i hi => h i hi))
theorem b_or (x y : Int32) (i : Nat) : bt (x ||| y) i = (bt x i || bt y i) := by unfold bt; rw [Int32.toBitVec_or, BitVec.getLsbD_or]
theorem b_and (x y : Int32) (i : Nat) : bt (x &&& y) i = (bt x i && bt y i) := by unfold bt; rw [Int32.toBitVec_and, BitVec.getLsbD_and]
theorem b_xor (x y : Int32) (i : Nat) : bt (x ^^^ y) i = (bt x i ^^ bt y i) := by unfold bt; rw [Int32.toBitVec_xor, BitVec.getLsbD_xor]
theorem b_big {x : Int32} {i : Nat} (h : 32 ≤ i) : bt x i = false := BitVec.getLsbD_of_ge _ _ h
theorem b_m1 : ∀ i, i < 32 → bt (-1) i = true := by decide +kernel
theorem b_0 (i : Nat) : bt 0 i = false := BitVec.getLsbD_zero
theorem s_l : ∀ n, n < 32 → ((nI n &&& 31).toBitVec.smod 32).toNat = n := by decide +kernel
theorem s_u : ∀ n, n < 32 → (((nI n).toUInt32 &&& Int32.toUInt32 31).toBitVec % 32).toNat = n := by decide +kernel
theorem b_shl (n : Nat) (hn : n < 32) (x : Int32) {i : Nat} (hi : i < 32) : bt (x <<< (nI n &&& 31)) i = (decide (n ≤ i) && bt x (i - n)) := by
  unfold bt
  rw [Int32.toBitVec_shiftLeft]
  show (x.toBitVec <<< ((nI n &&& 31).toBitVec.smod 32).toNat).getLsbD i = _
  rw [s_l n hn, BitVec.getLsbD_shiftLeft]
  rcases Nat.lt_or_ge i n with h | h
  · simp [h, Nat.not_le.mpr h]
  · simp [hi, h, Nat.not_lt.mpr h]
theorem b_ushr (n : Nat) (hn : n < 32) (x : Int32) (i : Nat) : bt ((x.toUInt32 >>> ((nI n).toUInt32 &&& Int32.toUInt32 31)).toInt32) i = bt x (n + i) := by
  show (x.toUInt32 >>> ((nI n).toUInt32 &&& Int32.toUInt32 31)).toBitVec.getLsbD i = x.toUInt32.toBitVec.getLsbD (n + i)
  rw [UInt32.toBitVec_shiftRight]
  show (x.toUInt32.toBitVec >>> (((nI n).toUInt32 &&& Int32.toUInt32 31).toBitVec % 32).toNat).getLsbD i = _
  rw [s_u n hn, BitVec.getLsbD_ushiftRight]
theorem b_sshr (n : Nat) (hn : n < 32) (x : Int32) {i : Nat} (hi : i < 32) : bt (x >>> (nI n &&& 31)) i = if n + i < 32 then bt x (n + i) else bt x 31 := by
  unfold bt
  rw [Int32.toBitVec_shiftRight]
  show (x.toBitVec.sshiftRight ((nI n &&& 31).toBitVec.smod 32).toNat).getLsbD i = _
  rw [s_l n hn, BitVec.getLsbD_sshiftRight, BitVec.msb_eq_getLsbD_last]
  simp [hi]
theorem b_1 : ∀ i, i < 32 → bt 1 i = decide (i = 0) := by decide +kernel
theorem bt_f {w : Int32} {x : Nat} (hx : x < 32) : f_bit w (nI x) = bt w x := by
  have h0 : bt (w >>> (nI x &&& 31)) 0 = bt w x := by
    rw [b_sshr x hx w (by decide)]
    simp [hx]
  unfold f_bit
  rw [← h0]
  generalize w >>> (nI x &&& 31) = z
  cases hb : bt z 0 with
  | true =>
    refine decide_eq_true (b_ext fun i hi => ?_)
    rw [b_and, b_1 i hi]
    by_cases h : i = 0
    · subst h; simp [hb]
    · simp [h]
  | false =>
    refine decide_eq_false fun q => ?_
    have : bt (z &&& 1) 0 = bt 1 0 := by rw [q]
    rw [b_and, b_1 0 (by decide), hb] at this
    cases this
theorem bt_n {n x : Nat} (hn : n < 2 ^ 31) (hx : x < 31) : bt (nI n) x = n.testBit x := by rw [← bt_f (by omega), n_bit hn hx]
/-! programs of a yard: below 2000 a test, 2000 not, 2001 and, 2002 or -/
def f_enc (t : Nat) : Int32 := if t < 2000 then nI t else if t = 2000 then -1 else if t = 2001 then -2 else -3
def f_stp (ev : Nat → Bool) (st : List Bool) (t : Nat) : List Bool :=
  if t < 2000 then ev t :: st else if t = 2000 then (match st with
    | a :: s => (!a) :: s
    | [] => []) else (match st with
    | r :: l :: s => (if t = 2001 then l && r else l || r) :: s
    | s => s)
def f_ev (ev : Nat → Bool) (ts : List Nat) (st : List Bool) : List Bool := ts.foldl (f_stp ev) st
def f_wf : List Nat → Nat → Prop
  | [], d => d = 1
  | t :: ts, d => if t < 2000 then d + 1 ≤ 60 ∧ f_wf ts (d + 1) else if t = 2000 then 1 ≤ d ∧ f_wf ts d else 2 ≤ d ∧ f_wf ts (d - 1)
def f_hold (ts : List Nat) (f t c k x : Nat) : Bool := match f_ev (fun q => f_tst q f t c k x) ts [] with
  | a :: _ => a
  | [] => false
abbrev fRl : Type := Bool × Nat × List Nat
def f_beg (rs : List fRl) (r : Nat) : Nat := ((rs.take r).map (fun q => q.2.2.length)).sum
def f_YR (M : fMem) (y : Nat) (rs : List fRl) : Prop := rs.length ≤ 10 ∧ f_beg rs rs.length ≤ 100 ∧ M.1 y 2 = nI rs.length ∧ ∀ r q, rs[r]? = some q → M.1 (y + 1) r = f_b q.1 ∧ M.1 (y + 2) r = nI q.2.1 ∧ q.2.1 < 100 ∧ M.1 (y + 3) r = nI (f_beg rs (r + 1)) ∧ f_wf q.2.2 0 ∧ ∀ j t, q.2.2[j]? = some t → M.1 (y + 4) (f_beg rs r + j) = f_enc t
/-- two memories differ in these cells alone -/
def f_ex (cs ds : List Nat) (M M' : fMem) : Prop := (∀ c, c ∉ cs → M'.1 c = M.1 c) ∧ ∀ c, c ∉ ds → M'.2 c = M.2 c
theorem f_ex.rf {cs ds : List Nat} {M : fMem} : f_ex cs ds M M := ⟨fun _ _ => rfl, fun _ _ => rfl⟩
theorem f_ex.tr {cs ds : List Nat} {M M1 M2 : fMem} (h1 : f_ex cs ds M M1) (h2 : f_ex cs ds M1 M2) : f_ex cs ds M M2 := ⟨fun c h => (h2.1 c h).trans (h1.1 c h), fun c h => (h2.2 c h).trans (h1.2 c h)⟩
theorem f_ex.mono {cs cs' ds ds' : List Nat} {M M' : fMem} (h : f_ex cs ds M M') (h1 : ∀ c ∈ cs, c ∈ cs') (h2 : ∀ c ∈ ds, c ∈ ds') : f_ex cs' ds' M M' := ⟨fun c hc => h.1 c (fun q => hc (h1 c q)), fun c hc => h.2 c (fun q => hc (h2 c q))⟩
theorem f_ex.up {cs ds : List Nat} {M M' : fMem} (h : f_ex cs ds M M') {c k : Nat} {v : Int32} (hc : c ∈ cs) : f_ex cs ds M (f_up M'.1 c k v, M'.2) := ⟨fun d hd => by
  have : d ≠ c := fun e => hd (e ▸ hc)
  show f_up M'.1 c k v d = _
  rw [f_up_ne this]; exact h.1 d hd, h.2⟩
theorem f_ex.pt {cs ds : List Nat} {M M' : fMem} (h : f_ex cs ds M M') {n c : Nat} {i v : Int32} (hc : c ∈ cs) : f_ex cs ds M (f_pt n c i v M') := by
  unfold f_pt
  split
  · exact h.up hc
  · exact h
theorem f_YR.ex {M M' : fMem} {y : Nat} {rs : List fRl} {cs ds : List Nat} (h : f_YR M y rs) (he : f_ex cs ds M M') (h0 : y ∉ cs) (h1 : y + 1 ∉ cs) (h2 : y + 2 ∉ cs) (h3 : y + 3 ∉ cs) (h4 : y + 4 ∉ cs) : f_YR M' y rs := by
  obtain ⟨a, b, c, d⟩ := h
  refine ⟨a, b, by rw [he.1 y h0]; exact c, fun r q hq => ?_⟩
  obtain ⟨d1, d2, d3, d4, d5, d6⟩ := d r q hq
  exact ⟨by rw [he.1 _ h1]; exact d1, by rw [he.1 _ h2]; exact d2, d3, by rw [he.1 _ h3]; exact d4, d5, fun j t hj => by rw [he.1 _ h4]; exact d6 j t hj⟩
theorem f_at_in {t : Nat × (Nat → Int32)} {j : Nat} (h : j < t.1) (hb : t.1 < 2 ^ 31) : f_at t (nI j) = t.2 j := by
  unfold f_at
  rw [if_pos ⟨nI_pos' (by omega), nI_lt h hb⟩, nI_clamp (by omega)]
theorem f_pt_in {n c j : Nat} {v : Int32} {M : fMem} (h : j < n) (hb : n < 2 ^ 31) : f_pt n c (nI j) v M = (f_up M.1 c j v, M.2) := by
  unfold f_pt
  rw [if_pos ⟨nI_pos' (by omega), nI_lt h hb⟩, nI_clamp (by omega)]
def f_rel (W : Nat → Int32) (x : Nat) : List Bool → Prop
  | [] => True
  | b :: l => bt (W l.length) x = b ∧ f_rel W x l
theorem f_rel_cg {W W' : Nat → Int32} {x : Nat} : ∀ (l : List Bool), (∀ j, j < l.length → W' j = W j) → f_rel W x l → f_rel W' x l := by
  intro l
  induction l with
  | nil => intro _ _; trivial
  | cons b l ih =>
    intro h hr
    exact ⟨by rw [h l.length (by simp)]; exact hr.1, ih (fun j hj => h j (by simp; omega)) hr.2⟩
theorem f_beg_succ (rs : List fRl) (r : Nat) (q : fRl) (h : rs[r]? = some q) : f_beg rs (r + 1) = f_beg rs r + q.2.2.length := by
  unfold f_beg
  rw [List.take_add_one, h]
  simp
theorem f_beg_mono (rs : List fRl) : ∀ n r, r ≤ n → f_beg rs r ≤ f_beg rs n := by
  intro n
  induction n with
  | zero => intro r h; rw [show r = 0 by omega]; exact Nat.le_refl _
  | succ n ih =>
    intro r h
    by_cases e : r = n + 1
    · rw [e]; exact Nat.le_refl _
    · refine Nat.le_trans (ih r (by omega)) ?_
      cases hq : rs[n]? with
      | some q => rw [f_beg_succ rs n q hq]; omega
      | none =>
        unfold f_beg
        rw [List.take_add_one, hq]
        simp
