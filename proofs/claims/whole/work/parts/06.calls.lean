/-! ===== THE FRAME, calls, new cells, and the contract of a method out of its code's saying ===== -/
theorem f_pop_spec : ∀ (n : Nat) (st acc As r : List Value), f_pop n st acc = some (As, r) → As.reverse ++ r = acc.reverse ++ st ∧ As.length = n + acc.length := by
  intro n
  induction n with
  | zero => intro st acc As r h; cases h; exact ⟨rfl, by omega⟩
  | succ n ih =>
    intro st acc As r h
    cases st with
    | nil => cases h
    | cons v st =>
      obtain ⟨h1, h2⟩ := ih st (v :: acc) As r h
      refine ⟨by rw [h1]; simp, by rw [h2]; simp; omega⟩
theorem f_cats_sum (ad : Nat → Nat) : ∀ r : List Value, ((r.map (f_cv ad)).map fun v => v.category).sum = f_cats r := by
  intro r
  induction r with
  | nil => rfl
  | cons v r ih => simp only [List.map_cons, List.sum_cons, ih, f_cv_cat, f_cats]
theorem f_lget_app : ∀ (l : fL) (n i : Nat) (v : Value), f_lget (l ++ List.replicate n none) i = some v → f_lget l i = some v := by
  intro l
  induction l with
  | nil =>
    intro n
    induction n with
    | zero => intro i v h; exact h
    | succ n ih =>
      intro i v h
      cases i with
      | zero => cases h
      | succ i => exact ih i v h
  | cons a l ih =>
    intro n i v h
    cases i with
    | zero => exact h
    | succ i => exact ih n i v h
theorem f_cat12 (v : Value) : v.category = 1 ∨ v.category = 2 := by cases v <;> simp [Value.category]
theorem f_args_mem (ad : Nat → Nat) : ∀ (As : List Value) (k i : Nat) (v : Value), f_lget (f_args As) i = some v → (k + i, f_cv ad v) ∈ lv_args k (As.map (f_cv ad)) := by
  intro As
  induction As with
  | nil => intro k i v h; simp [f_args, f_lget] at h
  | cons a As ih =>
    intro k i v h
    show _ ∈ (k, f_cv ad a) :: lv_args (if (f_cv ad a).category = 2 then k + 2 else k + 1) (As.map (f_cv ad))
    rw [f_cv_cat]
    cases i with
    | zero => cases h; exact List.mem_cons_self
    | succ i =>
      refine List.mem_cons_of_mem _ ?_
      change f_lget (bif f_two (some a) then none :: f_args As else f_args As) i = some v at h
      rcases f_cat12 a with hc | hc
      · have h2 : f_two (some a) = false := by show Nat.beq a.category 2 = false; rw [hc]; rfl
        rw [h2] at h
        rw [if_neg (by omega), show k + (i + 1) = k + 1 + i by omega]
        exact ih (k + 1) i v h
      · have h2 : f_two (some a) = true := by show Nat.beq a.category 2 = true; rw [hc]; rfl
        rw [h2] at h
        rw [if_pos hc]
        cases i with
        | zero => cases h
        | succ i =>
          rw [show k + (i + 1 + 1) = k + 2 + i by omega]
          exact ih (k + 2) i v h
theorem f_sl_len (ad : Nat → Nat) : ∀ As : List Value, (lg_sl (As.map (f_cv ad))).length = f_cats As := by
  intro As
  induction As with
  | nil => rfl
  | cons a As ih =>
    have : lg_sl ((a :: As).map (f_cv ad)) = (if (f_cv ad a).category = 2 then [.val (f_cv ad a), .second] else [.val (f_cv ad a)]) ++ lg_sl (As.map (f_cv ad)) := rfl
    rw [this, List.length_append, ih, f_cv_cat]
    rcases f_cat12 a with hc | hc
    · rw [if_neg (by omega)]; simp [f_cats, hc]
    · rw [if_pos hc]; simp [f_cats, hc]
theorem f_entry_LH (ad : Nat → Nat) (As : List Value) (n : Nat) (h : f_cats As ≤ n) : f_LH ad ((lg_sl (As.map (f_cv ad)) ++ List.replicate (n - (lg_sl (As.map (f_cv ad))).length) Slot.unset).toArray) n (f_entry As n) := by
  have hl := lv_entry (As.map (f_cv ad)) (n := n) (by rw [f_sl_len]; exact h)
  refine ⟨hl.1, hl.2.1, fun i v hv => ?_⟩
  have hm := f_args_mem ad As 0 i v (f_lget_app _ _ _ _ hv)
  rw [Nat.zero_add] at hm
  exact hl.2.2 _ hm
theorem f_GoodIn {y y' : MethodName} {bt bt' : ByteArray} {maxL maxL' : Nat} {ret ret' : Option FieldType} (h : Cond.code y' bt' maxL' ret' ∈ f_GW) : GoodIn (f_ws y bt maxL ret) (f_ws y' bt' maxL' ret') := by
  intro w hw
  rcases List.mem_cons.mp hw with rfl | hw
  · exact ⟨List.mem_cons_of_mem _ h, good_of_word (f_GW_good h)⟩
  · exact ⟨List.mem_cons_of_mem _ hw, good_of_word (f_GW_good hw)⟩
theorem f_blind {D : va_G} {cA : Nat → ClassId} {ad : Nat → Nat} {lo sz : Nat} {G : fG} {M : fMem} {As : List Value} : FrameBlind (f_Pre D cA ad lo sz G M As) := fun a U g mk q =>
  ⟨q.1, q.2.1, q.2.2.1, va_K.moved (u := U) (U := U.calling g mk a) (Vm.Alike.refl U.vm) q.2.2.2.1, f_St.same (u := U) (U := U.calling g mk a) rfl q.2.2.2.2⟩
section FC
variable {p : Program} {l : Launch} {e : Env} {s : State} {m : MethodId} {args : Array Value} {below : List Frame} {meth : Method} {c : Code} {own : String} {y : MethodName} {bt : ByteArray} {maxL : Nat} {ret : Option FieldType} {lo hi h mc sz : Nat} {D : va_G} {cA : Nat → ClassId} {ad : Nat → Nat} {R : fR}
theorem f_pre (hB : f_B p s m args meth c own y bt maxL ret lo hi mc sz D cA ad) {G : fG} {M : fMem} {H : Heap} {locs : List Loc} (h1 : hi ≤ G.1) (h2 : G.1 ≤ hi + mc) (h3 : H.size = sz + (G.1 - hi)) (hP : f_P D cA ad lo G M H) (hS : va_S (f_A lo hi ad sz) s.heap H locs) (As : List Value) (U : State) (hU : U.heap = H) (hW : s.WarmedH U.vm) : f_Pre D cA ad lo (sz + (G.1 - hi)) G M As (As.map (f_cv ad)).toArray U := by
  have hlim := hB.lim
  refine ⟨rfl, by rw [hU]; exact h3, by rw [hU]; exact hP, va_K.moved hW.alike hB.K, ?_⟩
  rw [hU]
  exact hB.St.warm hW hS.2.1 (fun q hq => f_A.sub hB.Ad hB.hlo h1 (by omega) q hq)
/-- behind a call -/
theorem f_cont {D : va_G} {cA : Nat → ClassId} {ad : Nat → Nat} {lo hi' sz' mc' ms' : Nat} {R' : fR} {A0 A1 : Nat → Prop} {R0 : Room} {H : Heap} {locs : List Loc} {cells slots pc : Nat} {lsA : Array Slot} {st0 rest : List Value} {Q : State → Prop} {a : Array Value} {H0 : Heap} (hr : va_Run p l e R0 s m args below meth c H locs cells slots mc' ms' (F0 m pc lsA st0) rest (f_Q D cA ad lo hi' sz' mc' R' A1 a) A1) (hS : va_S A0 H0 H locs) (hf : ∀ q, A1 q → A0 q)
    (kk : ∀ (G' : fG) (v : Option Value) (M' : fMem) (H1 : Heap) (locs1 : List Loc), R' G' v M' → G'.1 = hi' + mc' → H1.size = sz' + mc' → f_P D cA ad lo G' M' H1 → va_S A0 H0 H1 locs1 → W p l e R0 s m args below meth c H1 locs1 (cells + mc') (slots + ms') Q (F0 m (pc + 3) lsA ((v.map (f_cv ad)).toList ++ rest))) : W p l e R0 s m args below meth c H locs cells slots Q (F0 m pc lsA st0) := by
  intro T hT X
  obtain ⟨v, st₀, t, T', L, h0, X', hL, e1, e2, ⟨G', v', M', hv, hR, hG, hz, hP, hF⟩, st⟩ := hr T hT X
  cases hv
  obtain ⟨hz2, hk⟩ := hF
  rw [h0] at hz2 hk
  obtain ⟨t2, a1, b1⟩ := kk G' v' M' T'.heap (locs ++ L) hR hG (by rw [e1]; exact hz) (by rw [e1]; exact hP)
    ⟨Nat.le_trans hS.1 (by rw [e1]; exact hz2), fun q h1 h2 => by rw [e1, hk q (Nat.lt_of_lt_of_le h1 hS.1) (fun z => h2 (hf q z))]; exact hS.2.1 q h1 h2, fun q hq => by
      rcases List.mem_append.mp hq with h | h
      · exact hS.2.2 q h
      · exact hf _ (hL q h)⟩ T' rfl X'
  exact ⟨t2, st t2 a1, b1⟩
theorem f_ans_eq (ad : Nat → Nat) (v : Option Value) (r : List Value) : (v.map (f_cv ad)).toList ++ r.map (f_cv ad) = (f_ans v r).map (f_cv ad) := by cases v <;> rfl
/-- behind a call that its contract speaks of, with the saying as the goal's rest -/
theorem f_back (hB : f_B p s m args meth c own y bt maxL ret lo hi mc sz D cA ad) {G : fG} {H : Heap} {locs : List Loc} (h1 : hi ≤ G.1) (h3 : H.size = sz + (G.1 - hi)) {mc' : Nat} (hl : G.1 + mc' ≤ hi + mc) (hS : va_S (f_A lo hi ad sz) s.heap H locs) {K : fK} (hK : ∀ G q ls st M, K G q ls st M → f_X p l e s m args below meth c maxL lo hi h mc sz D cA ad R G q ls st M) {pc : Nat} {ls : fL} {lsA : Array Slot} (hL : f_LH ad lsA maxL ls) {st0 rest : List Value} {a : Array Value}
    (hr : va_Run p l e (f_rm h mc (f_sl hi mc)) s m args below meth c H locs (G.1 - hi) (f_sl hi (G.1 - hi)) mc' (f_sl G.1 mc') (F0 m pc lsA st0) (rest.map (f_cv ad)) (f_Q D cA ad lo G.1 (sz + (G.1 - hi)) mc' (fun G' v M' => K G' (pc + 3) ls (f_ans v rest) M') (f_A lo G.1 ad (sz + (G.1 - hi))) a) (f_A lo G.1 ad (sz + (G.1 - hi)))) : W p l e (f_rm h mc (f_sl hi mc)) s m args below meth c H locs (G.1 - hi) (f_sl hi (G.1 - hi)) (MQ below (f_Q D cA ad lo hi sz mc R (f_A lo hi ad sz)) args s mc (f_sl hi mc) (f_A lo hi ad sz)) (F0 m pc lsA st0) := by
  have hlim := hB.lim
  refine f_cont hr hS (fun q hq => f_A.sub hB.Ad hB.hlo h1 (by omega) q hq) (fun G' v M' H1 locs1 hR hG hz hP hS1 => ?_)
  have k1 : G.1 - hi + mc' = G'.1 - hi := by omega
  have k2 : f_sl hi (G.1 - hi) + f_sl G.1 mc' = f_sl hi (G'.1 - hi) := by
    rw [← k1, f_sl_add, show hi + (G.1 - hi) = G.1 by omega]
  rw [k1, k2, f_ans_eq]
  exact hK _ _ _ _ _ hR H1 locs1 lsA hL (by omega) (by omega) (by omega) hP hS1
/-- what a call site wants of the callee: its contract, its code's word, and that it is none of two JDK's classes -/
def f_To (lo h h' mc' : Nat) (y' : MethodName) (bt' : ByteArray) (maxL' : Nat) (ret' : Option FieldType) (n : Nat) (sp : fSp) : Prop :=
  f_Con lo h' mc' y' bt' maxL' ret' sp ∧ h' + 1 ≤ h ∧ maxL' ≤ 45 ∧ Cond.code y' bt' maxL' ret' ∈ f_GW ∧ Cond.initialized y'.cls ∈ f_GW ∧ (y'.cls ≠ "java/lang/invoke/MethodHandle" ∧ y'.cls ≠ "java/lang/invoke/VarHandle" ∧ (parseMethodDescriptor y'.desc).map (fun d => d.parameters.length) = some n)
theorem f_room {h h' mc ms mc' ms' maxL' : Nat} (h1 : h' + 1 ≤ h) (h2 : maxL' ≤ 45) : (f_rm h' mc' ms').frames + 1 ≤ (f_rm h mc ms).frames ∧ 8 + (maxL' + 11) + (f_rm h' mc' ms').locals ≤ (f_rm h mc ms).locals := by
  refine ⟨h1, ?_⟩
  show 8 + (maxL' + 11) + 64 * h' ≤ 64 * h
  omega
theorem f_cells {hi mc n mc' : Nat} (h1 : hi ≤ n) (hl : n + mc' ≤ hi + mc) : n - hi + mc' ≤ mc ∧ f_sl hi (n - hi) + f_sl n mc' ≤ f_sl hi mc := by
  refine ⟨by omega, ?_⟩
  have := f_sl_add hi (n - hi) mc'
  rw [show hi + (n - hi) = n by omega] at this
  rw [← this]
  exact f_sl_mono hi (by omega)
/-- a static method, of the own class or of another -/
theorem s_callS (hB : f_B p s m args meth c own y bt maxL ret lo hi mc sz D cA ad) {pc nx index h' n : Nat} {y' : MethodName} {bt' : ByteArray} {maxL' : Nat} {ret' : Option FieldType} {sp : fSp} (hT : f_To lo h h' 0 y' bt' maxL' ret' n sp) (hl : Cond.methodLink own index y' ∈ f_GW ∨ ∃ host, (own, index, y', host) ∈ f_NWm) (hst : Cond.static y' ∈ f_GW) (hd : decode bt pc = .ok (.invokestatic index, 3)) (hn : pc + 3 = nx) : f_Snd (f_X p l e s m args below meth c maxL lo hi h mc sz D cA ad R) R pc (tr_call n maxL' sp nx) := by
  intro K hK G ls st M hk H locs lsA hL h1 h2 h3 hP hS
  subst hn
  have hlim := hB.lim
  have hts := hB.2.2.2.2.2.1
  obtain ⟨hCon, hh, hml, hcode, hini, hdd⟩ := hT
  unfold tr_call at hk
  cases hp : f_pop n st [] with
  | none => rw [hp] at hk; exact hk.elim
  | some q =>
    obtain ⟨As, r⟩ := q
    rw [hp] at hk
    cases hc : (Nat.ble (f_cats As) maxL' && Nat.ble (f_cats r) 8) with
    | false => simp only [hc, cond_false] at hk
    | true =>
      simp only [hc, cond_true] at hk
      simp only [Bool.and_eq_true] at hc
      obtain ⟨e1, e2⟩ := f_pop_spec n st [] As r hp
      have e1 : st = As.reverse ++ r := e1.symm
      have hM := hCon l D cA ad (sz + (G.1 - hi)) G As M _ hk (Nat.le_of_ble_eq_true hc.1) (Nat.le_trans hB.hlo h1) (by omega) (hB.Ad.grow hB.hlo h1 (by omega))
      have hstack : st.map (f_cv ad) = (As.map (f_cv ad)).reverse ++ r.map (f_cv ad) := by rw [e1, List.map_append, List.map_reverse]
      have hroom : ((r.map (f_cv ad)).map fun v => v.category).sum ≤ 8 := by rw [f_cats_sum]; exact Nat.le_of_ble_eq_true hc.2
      refine f_back (a := (As.map (f_cv ad)).toArray) (rest := r) hB h1 h3 (mc' := 0) (by omega) hS hK hL ?_
      rw [hstack]
      rcases hl with hl | ⟨host, hl⟩
      · exact va_runS ⟨hB.1, hB.2.1, hB.2.2.1, hB.hown, hts⟩ hM ⟨callB_of n hts (f_GoodIn hcode) rfl rfl rfl (hB.ts hini) (hB.ts hl) hdd (f_room hh hml), hB.ts hst⟩ ⟨f_blind, fun U hU hW => f_pre hB h1 h2 h3 hP hS As U hU hW⟩ rfl (by rw [List.length_map, e2]; rfl) hL.1 rfl (lv_room hroom) hd (f_cells (mc' := 0) h1 h2)
      · exact va_runSN ⟨hB.1, hB.2.1, hB.2.2.1, hB.hown, hts⟩ hM ⟨va_cnB n hts (f_GoodIn hcode) rfl rfl rfl (hB.St.2.1 _ hl) (hB.ts hini) hdd (f_room hh hml), hB.ts hst, trivial⟩ ⟨f_blind, fun U hU hW => f_pre hB h1 h2 h3 hP hS As U hU hW⟩ rfl (by rw [List.length_map, e2]; rfl) hL.1 rfl (lv_room hroom) hd (f_cells (mc' := 0) h1 h2)
theorem f_recvO (hB : f_B p s m args meth c own y bt maxL ret lo hi mc sz D cA ad) {G : fG} {M : fMem} {H : Heap} {b ci N : Nat} {C : String} {T : u_T} {ty : Nat → FieldType} (hC : f_CL ci C T N ty) (hP : f_P D cA ad lo G M H) (hb : f_isO lo G b ci = true) : ∃ cell : Cell, H[ad b]? = some cell ∧ cell.vm.isStatics = false ∧ s.vm.findClass C = some cell.cls := by
  obtain ⟨g1, g2, g3⟩ := f_isO_spec hb
  exact va_recv (q := (C, T, N)) hB.K (hP.one g1 g2 (f_cell_O g3)) (q0 := 0) hC.1 rfl
/-- a method of an object -/
theorem s_callV (hB : f_B p s m args meth c own y bt maxL ret lo hi mc sz D cA ad) {pc nx index h' n ci N : Nat} {C : String} {T : u_T} {ty : Nat → FieldType} (hC : f_CL ci C T N ty) {y' : MethodName} {bt' : ByteArray} {maxL' : Nat} {ret' : Option FieldType} {sp : fSp} (hT : f_To lo h h' 0 y' bt' maxL' ret' n sp) (hl : Cond.methodLink own index y' ∈ f_GW ∨ ∃ host, (own, index, y', host) ∈ f_NWm) (hin : Cond.instanceMethod y' ∈ f_GW) (hse : Cond.selects C y' y' ∈ f_GW) (hd : decode bt pc = .ok (.invokevirtual index, 3)) (hn : pc + 3 = nx) : f_Snd (f_X p l e s m args below meth c maxL lo hi h mc sz D cA ad R) R pc (tr_callO lo ci (n + 1) maxL' sp nx) := by
  intro K hK G ls st M hk H locs lsA hL h1 h2 h3 hP hS
  subst hn
  have hlim := hB.lim
  have hts := hB.2.2.2.2.2.1
  obtain ⟨hCon, hh, hml, hcode, hini, hdd⟩ := hT
  unfold tr_callO at hk
  split at hk
  · rename_i b As r hp
    cases hc : (f_isO lo G b ci && (Nat.ble (f_cats (.ref b :: As)) maxL' && Nat.ble (f_cats r) 8)) with
    | false => simp only [hc, cond_false] at hk
    | true =>
      simp only [hc, cond_true] at hk
      simp only [Bool.and_eq_true] at hc
      obtain ⟨e1, e2⟩ := f_pop_spec (n + 1) st [] (.ref b :: As) r hp
      have e1 : st = As.reverse ++ .ref b :: r := by
        have := e1.symm
        simpa using this
      have hM := hCon l D cA ad (sz + (G.1 - hi)) G (.ref b :: As) M _ hk (Nat.le_of_ble_eq_true hc.2.1) (Nat.le_trans hB.hlo h1) (by omega) (hB.Ad.grow hB.hlo h1 (by omega))
      have hstack : st.map (f_cv ad) = (As.map (f_cv ad)).reverse ++ .ref (ad b) :: r.map (f_cv ad) := by rw [e1, List.map_append, List.map_reverse]; rfl
      have hroom : ((r.map (f_cv ad)).map fun v => v.category).sum ≤ 8 := by rw [f_cats_sum]; exact Nat.le_of_ble_eq_true hc.2.2
      have hlen : (As.map (f_cv ad)).length = n := by rw [List.length_map]; simp at e2; omega
      refine f_back (a := (Value.ref (ad b) :: As.map (f_cv ad)).toArray) (rest := r) hB h1 h3 (mc' := 0) (by omega) hS hK hL ?_
      rw [hstack]
      rcases hl with hl | ⟨host, hl⟩
      · exact va_runV (As := As.map (f_cv ad)) (C := C) ⟨hB.1, hB.2.1, hB.2.2.1, hB.hown, hts⟩ hM ⟨callB_of n hts (f_GoodIn hcode) rfl rfl rfl (hB.ts hini) (hB.ts hl) hdd (f_room hh hml), hB.ts hin, hB.ts hse⟩ ⟨f_blind, f_recvO hB hC hP hc.1, fun U hU hW => f_pre hB h1 h2 h3 hP hS (.ref b :: As) U hU hW⟩ rfl hlen hL.1 rfl (lv_room hroom) hd (f_cells (mc' := 0) h1 h2)
      · exact va_runVN (As := As.map (f_cv ad)) (C := C) ⟨hB.1, hB.2.1, hB.2.2.1, hB.hown, hts⟩ hM ⟨va_cnB n hts (f_GoodIn hcode) rfl rfl rfl (hB.St.2.1 _ hl) (hB.ts hini) hdd (f_room hh hml), hB.ts hin, hB.ts hse⟩ ⟨f_blind, f_recvO hB hC hP hc.1, fun U hU hW => f_pre hB h1 h2 h3 hP hS (.ref b :: As) U hU hW⟩ rfl hlen hL.1 rfl (lv_room hroom) hd (f_cells (mc' := 0) h1 h2)
  · exact hk.elim
/-- the contract of a method out of its code's saying -/
theorem f_con {lo h mc : Nat} {own : String} {y : MethodName} {bt : ByteArray} {maxL : Nat} {ret : Option FieldType} {sp : fSp} {code : Nat → fTr} (hy : plainName y.cls = true) (hcls : y.cls = own) (hcode : ∀ (p : Program) (l : Launch) (e : Env) (s : State) (m : MethodId) (args : Array Value) (below : List Frame) (meth : Method) (c : Code) (hi sz : Nat) (D : va_G) (cA : Nat → ClassId) (ad : Nat → Nat) (R : fR), f_B p s m args meth c own y bt maxL ret lo hi mc sz D cA ad → ∀ pc, f_Snd (f_X p l e s m args below meth c maxL lo hi h mc sz D cA ad R) R pc (code pc))
    (hmeets : f_Meets maxL code sp) : f_Con lo h mc y bt maxL ret sp := by
  intro l D cA ad sz G As M R hsp hw hlo hlim hAd
  refine Met.ofW (cc := bt) (maxL := maxL) (ret := ret) hy rfl ?_
  intro p e s m args below meth c s₁ B hml hv
  obtain ⟨rfl, hsz, hP, hK, hSt⟩ := hv
  have hown : s.vm.findClass own = some m.cls := by rw [← hcls]; exact findClass_of_methodNamed B.named
  have hB : f_B p s m (As.map (f_cv ad)).toArray meth c own y bt maxL ret lo G.1 mc sz D cA ad :=
    ⟨B.exec, B.bytes, hml, B.returns, hown, atoms_spec (ws := f_ws y bt maxL ret) B.pre, B.notSynchronized, (name_of_methodNamed B.named B.method).1, hsz, hK, hSt, hAd, hlo, hlim⟩
  have hX := hmeets G As M R hsp (f_X p l e s m (As.map (f_cv ad)).toArray below meth c maxL lo G.1 h mc sz D cA ad R) (hcode p l e s m _ below meth c G.1 sz D cA ad R hB) (fun G pc ls ls' st M hle hx H locs lsA hL => hx H locs lsA (hL.le hle))
  have hl := f_entry_LH ad As maxL hw
  rw [lg_entry_eq]
  have := hX s.heap [] _ hl (Nat.le_refl _) (by omega) (by omega) hP va_S.rf
  rw [Nat.sub_self] at this
  exact this
end FC
