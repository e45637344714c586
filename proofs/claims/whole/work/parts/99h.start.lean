/-! THE CLAIM OUT OF ONE WALK OF THE LAW'S BODY. Your part is whole_start (and what it stands on); all else here is the same for every law, but numbers. -/
def R_law : String := "BrokenThreeLaw"
def lw_P (b : Addr) (xs : List Int32) (args : Array Value) (s : State) : Prop := args = #[.ref b] ∧ s.IntsAt b xs ∧ xs.length ≤ 2560 ∧ (Jvm.Cond.and given_1 narrow_1).before args s = true
def lw_Q (_ : Array Value) (s : State) (o : Outcome) (t : State) : Prop := o = .returned (some (.int 1)) ∧ Framed s o t [] 600000 7302250
def lw_Z (below : List Frame) (a : Array Value) (s : State) : State → Prop := fun t => ∃ o, t.status = .running ∧ Ended t below o ∧ lw_Q a s o t
/-- the law's own end, with 1 on the stack, nothing written that was there before, its room as the claim has it -/
theorem lw_ret {p : Program} {l : Launch} {e : Env} {s : State} {m : MethodId} {below : List Frame} {meth : Method} {c : Code} {b : Nat} (hx : p.tables.exec = Jvm.exec) (hb : c.code = code) (hr : meth.sig.returnType = ret) (hlocks : meth.locks = false) {pc : Nat} {H : Heap} {ls : Array Slot} (hdg : decode code pc = .ok (.ireturn, 1)) : W p l e room_1 s m #[Value.ref b] below meth c H [] 600000 7302250 (lw_Z below #[Value.ref b] s) (F0 m pc ls [.int 1]) := by
  intro T hT X
  obtain ⟨fs, hret, hrun, hended, hW, hframe⟩ := X.leave (v := some (.int 1)) (hlocks := hlocks) (fun h => by rw [hr] at h; cases h)
  have hmeth' : T.vm.method? m = some meth := X.method'
  refine ⟨T.setFrames fs, ?_, .returned (some (.int 1)), hrun, hended, rfl, ⟨_, rfl⟩, hW, hframe⟩
  jvm_step X.here [X.here.top, hx, hb, hdg, hmeth', hr, ret, narrow_b1]
  (try refine ⟨rfl, ?_⟩); (try refine ⟨rfl, ?_⟩)
  first | (intro acts; rw [hret _ acts rfl rfl rfl]) | rw [hret _ _ rfl rfl rfl]
  exact Steps.refl _
/-- what holds at the law's entry: the machine, the code, the tables' words (any of lw_tbl by 'hts w (by decide +kernel)'), the script of L ints xs at the cell b, what the Statement gives of the start (any of its parts by flat_of_before) -/
def lw_At (p : Program) (s : State) (m : MethodId) (meth : Method) (c : Code) (b L : Nat) (xs : Nat → Int32) : Prop :=
  p.tables.exec = Jvm.exec ∧ c.code = code ∧ meth.sig.returnType = ret ∧ c.maxLocals = 4 ∧ s.vm.findClass R_law = some m.cls ∧ (∀ w ∈ lw_tbl, w.before #[Value.ref b] s = true) ∧ va_X b L xs s s.heap ∧ b < s.heap.size ∧ meth.locks = false ∧ (Jvm.Cond.and given_1 narrow_1).before #[Value.ref b] s = true
/-! ===== what holds at the law's entry ===== -/
def i_nwf : List Nat := [41, 42, 43, 44, 45, 47, 48, 49, 50, 52, 53, 56, 58, 60, 62, 82, 84, 85, 87, 88, 90, 91, 93, 95, 96, 97, 98, 100, 102, 103, 104, 107, 108, 110, 112, 114, 116, 117, 119, 121, 165, 283, 285, 314, 316, 318, 355, 357, 374, 376, 871]
def i_nwm : List Nat := [30, 36, 157, 162, 182, 188, 232, 248, 267, 274, 304, 338, 348, 369, 434, 438, 478, 482, 487, 497, 501, 517, 521, 523, 526, 530, 538, 548, 549, 592, 596, 609, 613, 618, 619, 620, 628, 636, 641, 642, 654, 658, 662, 664, 667, 672, 673, 677, 678, 700, 704, 718, 726, 727, 740, 743, 755, 763, 769, 778, 787, 796, 800, 803, 811, 822, 826, 827, 836, 852, 857, 870, 873, 887, 891, 892]
theorem w_nwf : ∀ k, k < 51 → tables_1[i_nwf.getD k 0]? = (f_NWf[k]?).map (fun q => Cond.fieldLinkNest q.1 q.2.1 q.2.2.1 q.2.2.2.1 q.2.2.2.2.1 q.2.2.2.2.2) := by decide +kernel
theorem w_nwm : ∀ k, k < 76 → tables_1[i_nwm.getD k 0]? = (f_NWm[k]?).map (fun q => Cond.methodLinkNest q.1 q.2.1 q.2.2.1 q.2.2.2) := by decide +kernel
theorem f_nwf {q : String × Nat × String × String × String × String} (h : q ∈ f_NWf) : Cond.fieldLinkNest q.1 q.2.1 q.2.2.1 q.2.2.2.1 q.2.2.2.2.1 q.2.2.2.2.2 ∈ lw_tbl := by
  obtain ⟨k, hk⟩ := List.getElem?_of_mem h
  have hlt : k < 51 := (List.getElem?_eq_some_iff.mp hk).1
  have := w_nwf k hlt
  rw [hk] at this
  exact List.mem_append_right _ (List.mem_of_getElem? this)
theorem f_nwm {q : String × Nat × MethodName × String} (h : q ∈ f_NWm) : Cond.methodLinkNest q.1 q.2.1 q.2.2.1 q.2.2.2 ∈ lw_tbl := by
  obtain ⟨k, hk⟩ := List.getElem?_of_mem h
  have hlt : k < 76 := (List.getElem?_eq_some_iff.mp hk).1
  have := w_nwm k hlt
  rw [hk] at this
  exact List.mem_append_right _ (List.mem_of_getElem? this)
theorem f_Ar {args : Array Value} {s : State} {ty : FieldType} (h : (Cond.arrayClass ty).before args s = true) (hp : ty = .int ∨ ty = .long ∨ ty = .boolean) : ∃ cA : ClassId, ArrOfT s cA ty ∧ va_RA s cA ty := by
  obtain ⟨cA, kA, comp, h1, h2, h3⟩ := Cond.arrayClass_spec h
  refine ⟨cA, fun n z => ⟨fun k h => (by cases h), kA, h2, comp, h3⟩, ?_⟩
  rcases hp with rfl | rfl | rfl <;> exact h1
theorem f_Kof {args : Array Value} {s : State} (hts : ∀ w ∈ lw_tbl, w.before args s = true) : ∃ (D : va_G) (cA : Nat → ClassId), va_K D vwCl (f_tys cA) s := by
  have ht : ∀ w ∈ f_GW, w.before args s = true := fun w hw => hts w (f_GW_in hw)
  obtain ⟨c0, i0, h0⟩ := u_known (C := RX0) (T := TX0) (N := 5) (n := 5) ht inX0 (hts _ (List.mem_append_right _ (List.mem_of_getElem? (i := 368) (by decide +kernel))))
  obtain ⟨c1, i1, h1⟩ := u_known (C := RX1) (T := TX1) (N := 6) (n := 6) ht inX1 (hts _ (List.mem_append_right _ (List.mem_of_getElem? (i := 181) (by decide +kernel))))
  obtain ⟨c2, i2, h2⟩ := u_known (C := RX2) (T := TX2) (N := 7) (n := 7) ht inX2 (hts _ (List.mem_append_right _ (List.mem_of_getElem? (i := 247) (by decide +kernel))))
  obtain ⟨c3, i3, h3⟩ := u_known (C := RX3) (T := TX3) (N := 6) (n := 6) ht inX3 (hts _ (List.mem_append_right _ (List.mem_of_getElem? (i := 187) (by decide +kernel))))
  obtain ⟨c4, i4, h4⟩ := u_known (C := RX4) (T := TX4) (N := 8) (n := 8) ht inX4 (hts _ (List.mem_append_right _ (List.mem_of_getElem? (i := 303) (by decide +kernel))))
  obtain ⟨c5, i5, h5⟩ := u_known (C := RX5) (T := TX5) (N := 5) (n := 5) ht inX5 (hts _ (List.mem_append_right _ (List.mem_of_getElem? (i := 156) (by decide +kernel))))
  obtain ⟨c6, i6, h6⟩ := u_known (C := RX6) (T := TX6) (N := 1) (n := 1) ht inX6 (hts _ (List.mem_append_right _ (List.mem_of_getElem? (i := 337) (by decide +kernel))))
  obtain ⟨c7, i7, h7⟩ := u_known (C := RX7) (T := TX7) (N := 3) (n := 3) ht inX7 (hts _ (List.mem_append_right _ (List.mem_of_getElem? (i := 231) (by decide +kernel))))
  obtain ⟨c8, i8, h8⟩ := u_known (C := RX8) (T := TX8) (N := 16) (n := 16) ht inX8 (hts _ (List.mem_append_right _ (List.mem_of_getElem? (i := 29) (by decide +kernel))))
  obtain ⟨c9, i9, h9⟩ := u_known (C := RX9) (T := TX9) (N := 4) (n := 4) ht inX9 (hts _ (List.mem_append_right _ (List.mem_of_getElem? (i := 347) (by decide +kernel))))
  obtain ⟨c10, i10, h10⟩ := u_known (C := RX10) (T := TX10) (N := 8) (n := 8) ht inX10 (hts _ (List.mem_append_right _ (List.mem_of_getElem? (i := 35) (by decide +kernel))))
  obtain ⟨c11, i11, h11⟩ := u_known (C := RX11) (T := TX11) (N := 11) (n := 11) ht inX11 (hts _ (List.mem_append_right _ (List.mem_of_getElem? (i := 21) (by decide +kernel))))
  obtain ⟨c12, i12, h12⟩ := u_known (C := RX12) (T := TX12) (N := 39) (n := 39) ht inX12 (hts _ (List.mem_append_right _ (List.mem_of_getElem? (i := 902) (by decide +kernel))))
  obtain ⟨a0, r0⟩ := f_Ar (ty := .int) (hts _ (List.mem_append_right _ (List.mem_of_getElem? (i := 80) (by decide +kernel)))) (by simp)
  obtain ⟨a1, r1⟩ := f_Ar (ty := .long) (hts _ (List.mem_append_right _ (List.mem_of_getElem? (i := 301) (by decide +kernel)))) (by simp)
  obtain ⟨a2, r2⟩ := f_Ar (ty := .boolean) (hts _ (List.mem_append_right _ (List.mem_of_getElem? (i := 1024) (by decide +kernel)))) (by simp)
  refine ⟨(fun k => ([c0, c1, c2, c3, c4, c5, c6, c7, c8, c9, c10, c11, c12] : List ClassId).getD k c0, fun k => ([i0, i1, i2, i3, i4, i5, i6, i7, i8, i9, i10, i11, i12] : List (Nat → Nat)).getD k i0), fun k => ([a0, a1, a2] : List ClassId).getD k a0, ?_, ?_⟩
  · intro k q hq
    match k, hq with
    | 0, hq => cases hq; exact h0
    | 1, hq => cases hq; exact h1
    | 2, hq => cases hq; exact h2
    | 3, hq => cases hq; exact h3
    | 4, hq => cases hq; exact h4
    | 5, hq => cases hq; exact h5
    | 6, hq => cases hq; exact h6
    | 7, hq => cases hq; exact h7
    | 8, hq => cases hq; exact h8
    | 9, hq => cases hq; exact h9
    | 10, hq => cases hq; exact h10
    | 11, hq => cases hq; exact h11
    | 12, hq => cases hq; exact h12
    | k + 13, hq => simp at hq
  · intro k q hq
    match k, hq with
    | 0, hq => cases hq; exact r0
    | 1, hq => cases hq; exact r1
    | 2, hq => cases hq; exact r2
    | k + 3, hq => simp [f_tys] at hq
def f_gn0 : List Cond := flatC (Jvm.Cond.and given_1 narrow_1)
theorem w_above : ∀ j, j < 7 → Cond.eq (.elem (.static "BrokenThree" "ABOVE" "[I") (.int (Int32.ofNat j))) (.int (f_tABOVE j)) ∈ f_gn0 := by decide +kernel
theorem w_base : ∀ j, j < 4 → Cond.eq (.elem (.static "BrokenThree$Ends" "BASE" "[I") (.int (Int32.ofNat j))) (.int (f_tBASE j)) ∈ f_gn0 := by decide +kernel
theorem w_bodies : ∀ j, j < 21 → Cond.eq (.elem (.static "BrokenThree$Acts" "BODIES" "[I") (.int (Int32.ofNat j))) (.int (f_tBODIES j)) ∈ f_gn0 := by decide +kernel
def f_tm (i : Nat) : Term := .string "BrokenThreeModel" (([130, 136, 138, 143, 112, 118] : List Nat).getD i 0)
theorem w_sx : ∀ i, i < 6 → Cond.exactly (f_tm i) "java/lang/String" ∈ f_gn0 := by decide +kernel
theorem w_sc : ∀ i, i < 6 → Cond.eq (.field (f_tm i) "java/lang/String" "coder" "B") (.int 0) ∈ f_gn0 := by decide +kernel
theorem w_sv : ∀ i, i < 6 → Cond.arrayOf (.field (f_tm i) "java/lang/String" "value" "[B") .byte ∈ f_gn0 := by decide +kernel
theorem w_sl : ∀ i, i < 6 → Cond.eq (.length (.field (f_tm i) "java/lang/String" "value" "[B")) (.int (Int32.ofNat (f_slen.getD i 0))) ∈ f_gn0 := by decide +kernel
theorem w_se : ∀ i, i < 6 → ∀ j, j < f_slen.getD i 0 → Cond.eq (.elem (.field (f_tm i) "java/lang/String" "value" "[B") (.int (Int32.ofNat j))) (.int ((f_sbyt.getD i []).getD j 0)) ∈ f_gn0 := by decide +kernel
theorem w_sn : ∀ i, i < 6 → ∀ j, j < 6 → i ≠ j → Cond.not (Cond.eq (f_tm i) (f_tm j)) ∈ f_gn0 ∨ Cond.not (Cond.eq (f_tm j) (f_tm i)) ∈ f_gn0 := by decide +kernel
theorem f_vkS {N : Nat} {len : List Nat} {byt : List (List Int32)} {adK adV adK' adV' : Nat → Nat} {A : Nat → Prop} {U : State} {H : Heap} (h : vk_S N len byt adK adV A U H) (h1 : ∀ i, i < N → adK' i = adK i) (h2 : ∀ i, i < N → adV' i = adV i) : vk_S N len byt adK' adV' A U H := by
  refine ⟨fun i hi => ?_, fun i j hi hj e => h.2 i j hi hj (by rw [← h1 i hi, ← h1 j hj]; exact e)⟩
  rw [h1 i hi, h2 i hi]
  exact h.1 i hi
theorem f_St.ad {ad ad' : Nat → Nat} {A : Nat → Prop} {U : State} {H : Heap} (h : f_St ad A U H) (e : ∀ c, 1000 ≤ c → ad' c = ad c) : f_St ad' A U H := by
  obtain ⟨h1, h2, h3, h4, h5, h6, h7⟩ := h
  refine ⟨h1, h2, fun q hq => ?_, h4, h5, f_vkS h6 (fun i _ => e _ (by omega)) (fun i _ => e _ (by omega)), fun q hq => ?_⟩
  · have : 1000 ≤ q.1 := by
      simp only [f_tabs, List.mem_cons, List.not_mem_nil, or_false] at hq
      rcases hq with rfl | rfl | rfl <;> decide
    rw [e _ this]
    exact h3 q hq
  · rw [e _ (by omega)]
    exact h7 q hq
theorem f_Stof {args : Array Value} {s : State} (hts : ∀ w ∈ lw_tbl, w.before args s = true) (hgv : (Jvm.Cond.and given_1 narrow_1).before args s = true) : ∃ ad : Nat → Nat, f_St ad (fun q => s.heap.size ≤ q) s s.heap := by
  have hs : ∀ w ∈ f_gn0, w.before args s = true := flat_of_before _ hgv
  have hA : ∀ a : Nat, a < s.heap.size → ¬ (fun q : Nat => s.heap.size ≤ q) a := fun a h => Nat.not_le.mpr h
  obtain ⟨t0, e0, T0⟩ := va_Tof (tm := .static "BrokenThree" "ABOVE" "[I") (ty := .int) (N := 7) (f := fun j => .int (f_tABOVE j)) (A := fun q : Nat => s.heap.size ≤ q) (by decide) (hs (Cond.arrayOf (.static "BrokenThree" "ABOVE" "[I") .int) (by decide +kernel)) (va_eqt (hs (Cond.eq (.length (.static "BrokenThree" "ABOVE" "[I")) (.int (Int32.ofNat 7))) (by decide +kernel))) (fun j hj => va_eqt (hs _ (w_above j hj))) hA
  have Z0 := va_Zref (A := fun q : Nat => s.heap.size ≤ q) (hts _ (List.mem_append_right _ (List.mem_of_getElem? (i := 872) (by decide +kernel)))) (hts _ (List.mem_append_right _ (List.mem_of_getElem? (i := 1) (by decide +kernel)))) e0 hA
  obtain ⟨t1, e1, T1⟩ := va_Tof (tm := .static "BrokenThree$Ends" "BASE" "[I") (ty := .int) (N := 4) (f := fun j => .int (f_tBASE j)) (A := fun q : Nat => s.heap.size ≤ q) (by decide) (hs (Cond.arrayOf (.static "BrokenThree$Ends" "BASE" "[I") .int) (by decide +kernel)) (va_eqt (hs (Cond.eq (.length (.static "BrokenThree$Ends" "BASE" "[I")) (.int (Int32.ofNat 4))) (by decide +kernel))) (fun j hj => va_eqt (hs _ (w_base j hj))) hA
  have Z1 := va_Zref (A := fun q : Nat => s.heap.size ≤ q) (hts _ (List.mem_append_right _ (List.mem_of_getElem? (i := 260) (by decide +kernel)))) (hts _ (List.mem_append_right _ (List.mem_of_getElem? (i := 8) (by decide +kernel)))) e1 hA
  obtain ⟨t2, e2, T2⟩ := va_Tof (tm := .static "BrokenThree$Acts" "BODIES" "[I") (ty := .int) (N := 21) (f := fun j => .int (f_tBODIES j)) (A := fun q : Nat => s.heap.size ≤ q) (by decide) (hs (Cond.arrayOf (.static "BrokenThree$Acts" "BODIES" "[I") .int) (by decide +kernel)) (va_eqt (hs (Cond.eq (.length (.static "BrokenThree$Acts" "BODIES" "[I")) (.int (Int32.ofNat 21))) (by decide +kernel))) (fun j hj => va_eqt (hs _ (w_bodies j hj))) hA
  have Z2 := va_Zref (A := fun q : Nat => s.heap.size ≤ q) (hts _ (List.mem_append_right _ (List.mem_of_getElem? (i := 869) (by decide +kernel)))) (hts _ (List.mem_append_right _ (List.mem_of_getElem? (i := 13) (by decide +kernel)))) e2 hA
  obtain ⟨adK, adV, S, E⟩ := vk_Sof (N := 6) (tm := f_tm) (len := f_slen) (byt := f_sbyt) (A := fun q : Nat => s.heap.size ≤ q) (by decide) (fun i hi => hs _ (w_sx i hi)) (fun i hi => hs _ (w_sc i hi)) (fun i hi => hs _ (w_sv i hi)) (fun i hi => hs _ (w_sl i hi)) (fun i hi j hj => hs _ (w_se i hi j hj)) (fun i j hi hj hij => (w_sn i hi j hj hij).imp (hs _) (hs _)) hA
  refine ⟨fun c => if c = 1000 then t0 else if c = 1001 then t1 else if c = 1002 then t2 else if c < 2100 then adK (c - 2000) else adV (c - 2100), fun q hq => va_Nw.of rfl (hts _ (f_nwf hq)), fun q hq => va_Nw.of rfl (hts _ (f_nwm hq)), fun q hq => ?_, ?_, ?_, f_vkS S (fun i hi => ?_) (fun i hi => ?_), fun q hq => ?_⟩
  · simp only [f_tabs, List.mem_cons, List.not_mem_nil, or_false] at hq
    rcases hq with rfl | rfl | rfl
    · exact ⟨Z0, T0⟩
    · exact ⟨Z1, T1⟩
    · exact ⟨Z2, T2⟩
  · exact va_Zof (hts _ (List.mem_append_right _ (List.mem_of_getElem? (i := 1062) (by decide +kernel)))) (hts _ (List.mem_append_right _ (List.mem_of_getElem? (i := 16) (by decide +kernel)))) (va_eqi (hs (Cond.eq (.static "java/lang/String" "COMPACT_STRINGS" "Z") (.int 1)) (by decide +kernel))) hA
  · exact va_Zqof (hts _ (List.mem_append_right _ (List.mem_of_getElem? (i := 1078) (by decide +kernel)))) (hts _ (List.mem_append_right _ (List.mem_of_getElem? (i := 18) (by decide +kernel)))) (hs (Cond.isRef (.static "jdk/internal/util/Preconditions" "SIOOBE_FORMATTER" "Ljava/util/function/BiFunction;")) (by decide +kernel)) hA
  · show (if 2000 + i = 1000 then t0 else if 2000 + i = 1001 then t1 else if 2000 + i = 1002 then t2 else if 2000 + i < 2100 then adK (2000 + i - 2000) else adV (2000 + i - 2100)) = adK i
    rw [if_neg (by omega), if_neg (by omega), if_neg (by omega), if_pos (by omega), Nat.add_sub_cancel_left]
  · show (if 2100 + i = 1000 then t0 else if 2100 + i = 1001 then t1 else if 2100 + i = 1002 then t2 else if 2100 + i < 2100 then adK (2100 + i - 2000) else adV (2100 + i - 2100)) = adV i
    rw [if_neg (by omega), if_neg (by omega), if_neg (by omega), if_neg (by omega), Nat.add_sub_cancel_left]
  · simp only [f_ldcs, List.mem_cons, List.not_mem_nil, or_false] at hq
    rcases hq with rfl | rfl | rfl | rfl | rfl | rfl
    · exact vk_R.of (hts _ (List.mem_append_right _ (List.mem_of_getElem? (i := 1044) (by decide +kernel)))) (E 0 (by decide))
    · exact vk_R.of (hts _ (List.mem_append_right _ (List.mem_of_getElem? (i := 1109) (by decide +kernel)))) (E 1 (by decide))
    · exact vk_R.of (hts _ (List.mem_append_right _ (List.mem_of_getElem? (i := 1110) (by decide +kernel)))) (E 2 (by decide))
    · exact vk_R.of (hts _ (List.mem_append_right _ (List.mem_of_getElem? (i := 1131) (by decide +kernel)))) (E 4 (by decide))
    · exact vk_R.of (hts _ (List.mem_append_right _ (List.mem_of_getElem? (i := 1136) (by decide +kernel)))) (E 5 (by decide))
    · exact vk_R.of (hts _ (List.mem_append_right _ (List.mem_of_getElem? (i := 1137) (by decide +kernel)))) (E 3 (by decide))
