/-! ===== THE FRAME, switches, statics, texts ===== -/
theorem f_swg_spec {x : Int32} {k : Nat → Prop} : ∀ (cs : List (Int32 × Nat)) (d : Nat), f_swg x cs d k → (∃ q ∈ cs, x = q.1 ∧ k q.2) ∨ ((∀ q ∈ cs, ¬ x = q.1) ∧ k d) := by
  intro cs
  induction cs with
  | nil => intro d h; exact Or.inr ⟨fun q hq => (by cases hq), h⟩
  | cons a cs ih =>
    intro d h
    obtain ⟨v, q⟩ := a
    by_cases hx : x = v
    · exact Or.inl ⟨(v, q), List.mem_cons_self, hx, h.1 hx⟩
    · rcases ih d (h.2 hx) with ⟨q2, h1, h2, h3⟩ | ⟨h1, h2⟩
      · exact Or.inl ⟨q2, List.mem_cons_of_mem _ h1, h2, h3⟩
      · refine Or.inr ⟨fun q2 hq => ?_, h2⟩
        rcases List.mem_cons.mp hq with rfl | hq
        · exact hx
        · exact h1 q2 hq
def f_tsw (pc : Nat) (lo hi : Int) (offs : Array Int) (cs : List (Int32 × Nat)) : Bool :=
  cs.all (fun q => decide (lo ≤ q.1.toInt) && decide (q.1.toInt ≤ hi) && (match offs[(q.1.toInt - lo).toNat]? with
    | some off => decide ((pc : Int) + off = (q.2 : Int))
    | none => false)) && (List.range (hi - lo + 1).toNat).all (fun j => cs.any (fun q => decide (q.1.toInt = lo + j)))
def f_lsw (pc : Nat) : List (Int × Int) → List (Int32 × Nat) → Bool
  | [], [] => true
  | (a, o) :: r, (v, t) :: cs => decide (v.toInt = a) && (decide ((pc : Int) + o = (t : Int)) && f_lsw pc r cs)
  | _, _ => false
theorem f_lsw_spec {pc : Nat} {x : Int32} {k : Nat → Prop} {d : Nat} {dflt : Int} (hd : (pc : Int) + dflt = (d : Int)) : ∀ (ps : List (Int × Int)) (cs : List (Int32 × Nat)), f_lsw pc ps cs = true → f_swg x cs d k → ∃ (off : Int) (t : Nat), Op.lookupswitch.offset ps dflt x.toInt = off ∧ (pc : Int) + off = (t : Int) ∧ k t := by
  intro ps
  induction ps with
  | nil =>
    intro cs h hk
    cases cs with
    | nil => exact ⟨dflt, d, rfl, hd, hk⟩
    | cons a cs => cases h
  | cons a ps ih =>
    intro cs h hk
    obtain ⟨a, o⟩ := a
    cases cs with
    | nil => cases h
    | cons b cs =>
      obtain ⟨v, t⟩ := b
      simp only [f_lsw, Bool.and_eq_true, decide_eq_true_eq] at h
      obtain ⟨h1, h2, h3⟩ := h
      by_cases hx : x = v
      · refine ⟨o, t, ?_, h2, hk.1 hx⟩
        rw [Op.lookupswitch.offset_cons, if_pos (by rw [hx, h1])]
      · obtain ⟨off, t2, e1, e2, e3⟩ := ih cs h3 (hk.2 hx)
        exact ⟨off, t2, by rw [lv_osw hx h1]; exact e1, e2, e3⟩
section FW
variable {p : Program} {l : Launch} {e : Env} {s : State} {m : MethodId} {args : Array Value} {below : List Frame} {meth : Method} {c : Code} {own : String} {y : MethodName} {bt : ByteArray} {maxL : Nat} {ret : Option FieldType} {lo hi h mc sz : Nat} {D : va_G} {cA : Nat → ClassId} {ad : Nat → Nat} {R : fR}
theorem s_tsw (hB : f_B p s m args meth c own y bt maxL ret lo hi mc sz D cA ad) {pc d len : Nat} {dflt a z : Int} {offs : Array Int} {cs : List (Int32 × Nat)} (hd : decode bt pc = .ok (.tableswitch dflt a z offs, len)) (hdf : (pc : Int) + dflt = (d : Int)) (hok : f_tsw pc a z offs cs = true) : f_Snd (f_X p l e s m args below meth c maxL lo hi h mc sz D cA ad R) R pc (tr_sw cs d) := by
  intro K hK G ls st M hk H locs lsA hL h1 h2 h3 hP hS
  unfold tr_sw at hk
  split at hk
  · rename_i x r
    simp only [f_tsw, Bool.and_eq_true, List.all_eq_true, decide_eq_true_eq] at hok
    obtain ⟨ok1, ok2⟩ := hok
    rcases f_swg_spec cs d hk with ⟨q, hq, rfl, hk2⟩ | ⟨hno, hk2⟩
    · obtain ⟨⟨b1, b2⟩, b3⟩ := ok1 q hq
      split at b3
      · rename_i off ho
        exact lv_tableIn hB.1 hB.2.1 hd (by omega) (by omega) ho (of_decide_eq_true b3) (hK _ _ _ _ _ hk2 H locs lsA hL h1 h2 h3 hP hS)
      · cases b3
    · refine lv_tableOut hB.1 hB.2.1 hd ?_ hdf (hK _ _ _ _ _ hk2 H locs lsA hL h1 h2 h3 hP hS)
      by_cases g1 : x.toInt < a
      · exact Or.inl g1
      · by_cases g2 : z < x.toInt
        · exact Or.inr g2
        · have hj := ok2 (x.toInt - a).toNat (List.mem_range.mpr (by omega))
          obtain ⟨q, hq, hv⟩ := List.any_eq_true.mp hj
          have hv := of_decide_eq_true hv
          refine absurd (Int32.toInt_inj.mp ?_) (hno q hq)
          rw [hv]
          omega
  · exact hk.elim
theorem s_lsw (hB : f_B p s m args meth c own y bt maxL ret lo hi mc sz D cA ad) {pc d len : Nat} {dflt : Int} {ps : Array (Int × Int)} {cs : List (Int32 × Nat)} (hd : decode bt pc = .ok (.lookupswitch dflt ps, len)) (hdf : (pc : Int) + dflt = (d : Int)) (hps : (ps.toList.zip (ps.toList.drop 1)).all (fun (a, next) => a.1 < next.1) = true) (hok : f_lsw pc ps.toList cs = true) : f_Snd (f_X p l e s m args below meth c maxL lo hi h mc sz D cA ad R) R pc (tr_sw cs d) := by
  intro K hK G ls st M hk H locs lsA hL h1 h2 h3 hP hS
  unfold tr_sw at hk
  split at hk
  · obtain ⟨off, t, e1, e2, hk⟩ := f_lsw_spec hdf ps.toList cs hok hk
    exact lv_lookup hB.1 hB.2.1 hd hps e1 e2 (hK _ _ _ _ _ hk H locs lsA hL h1 h2 h3 hP hS)
  · exact hk.elim
/-- a table, of the own class or of a nest mate -/
theorem s_gets (hB : f_B p s m args meth c own y bt maxL ret lo hi mc sz D cA ad) {pc nx index o N : Nat} {C n : String} {f : Nat → Int32} (ht : (o, C, n, N, f) ∈ f_tabs) (hl : f_FL own index C n "[I") (hd : decode bt pc = .ok (.getstatic index, 3)) (hn : pc + 3 = nx) : f_Snd (f_X p l e s m args below meth c maxL lo hi h mc sz D cA ad R) R pc (tr_push (.ref o) nx) := by
  intro K hK G ls st M hk H locs lsA hL h1 h2 h3 hP hS
  subst hn
  have hZ := (hB.St.2.2.1 _ ht).1
  rcases hl with hl | ⟨host, hl⟩
  · exact va_gets hB.1 hB.2.1 hZ hS hB.hown (hB.ts hl) (fun _ h9 => h9) hd (hK _ _ _ _ _ hk H locs lsA hL h1 h2 h3 hP hS)
  · exact va_getsN hB.1 hB.2.1 hZ hS hB.hown (va_Nw.use rfl (hB.St.1 _ hl)) (fun _ h9 => h9) hd (hK _ _ _ _ _ hk H locs lsA hL h1 h2 h3 hP hS)
theorem s_getC (hB : f_B p s m args meth c own y bt maxL ret lo hi mc sz D cA ad) {pc nx index : Nat} (hl : Cond.fieldLink own index "java/lang/String" "COMPACT_STRINGS" "Z" ∈ f_GW) (hd : decode bt pc = .ok (.getstatic index, 3)) (hn : pc + 3 = nx) : f_Snd (f_X p l e s m args below meth c maxL lo hi h mc sz D cA ad R) R pc (tr_push (.int 1) nx) := by
  intro K hK G ls st M hk H locs lsA hL h1 h2 h3 hP hS
  subst hn
  exact va_gets hB.1 hB.2.1 hB.St.2.2.2.1 hS hB.hown (hB.ts hl) (fun _ h9 => h9) hd (hK _ _ _ _ _ hk H locs lsA hL h1 h2 h3 hP hS)
theorem f_txt_spec {b i : Nat} (h : f_txt b = some i) : i < 6 ∧ b = 2000 + i := by
  unfold f_txt at h
  split at h
  · rename_i j hj
    cases hb : (Nat.beq b (2000 + j) && Nat.blt j 6) with
    | false => rw [hb] at h; cases h
    | true =>
      rw [hb] at h
      simp only [Bool.and_eq_true] at hb
      cases h
      exact ⟨Nat.le_of_ble_eq_true hb.2, Nat.eq_of_beq_eq_true hb.1⟩
  · cases h
theorem f_byt_spec {b i : Nat} (h : f_byt b = some i) : i < 6 ∧ b = 2100 + i := by
  unfold f_byt at h
  split at h
  · rename_i j hj
    cases hb : (Nat.beq b (2100 + j) && Nat.blt j 6) with
    | false => rw [hb] at h; cases h
    | true =>
      rw [hb] at h
      simp only [Bool.and_eq_true] at hb
      cases h
      exact ⟨Nat.le_of_ble_eq_true hb.2, Nat.eq_of_beq_eq_true hb.1⟩
  · cases h
theorem s_strv (hB : f_B p s m args meth c own y bt maxL ret lo hi mc sz D cA ad) {pc nx index : Nat} (hl : Cond.fieldLink own index "java/lang/String" "value" "[B" ∈ f_GW) (hd : decode bt pc = .ok (.getfield index, 3)) (hn : pc + 3 = nx) : f_Snd (f_X p l e s m args below meth c maxL lo hi h mc sz D cA ad R) R pc (tr_strv nx) := by
  intro K hK G ls st M hk H locs lsA hL h1 h2 h3 hP hS
  subst hn
  unfold tr_strv at hk
  split at hk
  · rename_i o r
    cases hw : f_txt o with
    | none => rw [hw] at hk; exact hk.elim
    | some i =>
      rw [hw] at hk
      obtain ⟨hi6, rfl⟩ := f_txt_spec hw
      exact vk_getf hB.1 hB.2.1 (hB.St.2.2.2.2.2.1.1 i hi6).2.2.1 hS hB.hown (hB.ts hl) (fun _ h9 => h9) hd (hK _ _ _ _ _ hk H locs lsA hL h1 h2 h3 hP hS)
  · exact hk.elim
theorem s_strc (hB : f_B p s m args meth c own y bt maxL ret lo hi mc sz D cA ad) {pc nx index : Nat} (hl : Cond.fieldLink own index "java/lang/String" "coder" "B" ∈ f_GW) (hd : decode bt pc = .ok (.getfield index, 3)) (hn : pc + 3 = nx) : f_Snd (f_X p l e s m args below meth c maxL lo hi h mc sz D cA ad R) R pc (tr_strc nx) := by
  intro K hK G ls st M hk H locs lsA hL h1 h2 h3 hP hS
  subst hn
  unfold tr_strc at hk
  split at hk
  · rename_i o r
    cases hw : f_txt o with
    | none => rw [hw] at hk; exact hk.elim
    | some i =>
      rw [hw] at hk
      obtain ⟨hi6, rfl⟩ := f_txt_spec hw
      exact vk_getf hB.1 hB.2.1 (hB.St.2.2.2.2.2.1.1 i hi6).2.1 hS hB.hown (hB.ts hl) (fun _ h9 => h9) hd (hK _ _ _ _ _ hk H locs lsA hL h1 h2 h3 hP hS)
  · exact hk.elim
theorem s_bald (hB : f_B p s m args meth c own y bt maxL ret lo hi mc sz D cA ad) {pc nx : Nat} (hd : decode bt pc = .ok (.baload, 1)) (hn : pc + 1 = nx) : f_Snd (f_X p l e s m args below meth c maxL lo hi h mc sz D cA ad R) R pc (tr_bald nx) := by
  intro K hK G ls st M hk H locs lsA hL h1 h2 h3 hP hS
  subst hn
  unfold tr_bald at hk
  split at hk
  · rename_i j o r
    cases hw : f_byt o with
    | none => rw [hw] at hk; exact hk.elim
    | some i =>
      rw [hw] at hk
      obtain ⟨hi6, rfl⟩ := f_byt_spec hw
      exact va_tb (f := fun j => .int ((f_sbyt.getD i []).getD j 0)) hB.1 hB.2.1 (hB.St.2.2.2.2.2.1.1 i hi6).2.2.2 hS (i := j) hk.1 rfl hd (hK _ _ _ _ _ hk.2 H locs lsA hL h1 h2 h3 hP hS)
  · exact hk.elim
theorem s_i2c (hB : f_B p s m args meth c own y bt maxL ret lo hi mc sz D cA ad) {pc nx : Nat} (hd : decode bt pc = .ok (.i2c, 1)) (hn : pc + 1 = nx) : f_Snd (f_X p l e s m args below meth c maxL lo hi h mc sz D cA ad R) R pc (tr_i2c nx) := by
  intro K hK G ls st M hk H locs lsA hL h1 h2 h3 hP hS
  subst hn
  unfold tr_i2c at hk
  split at hk
  · exact lv_i2c hB.1 hB.2.1 hd rfl (hK _ _ _ _ _ hk H locs lsA hL h1 h2 h3 hP hS)
  · exact hk.elim
/-- a method of a text -/
theorem s_callT (hB : f_B p s m args meth c own y bt maxL ret lo hi mc sz D cA ad) {pc nx index h' n : Nat} {y' : MethodName} {bt' : ByteArray} {maxL' : Nat} {ret' : Option FieldType} {sp : fSp} (hT : f_To lo h h' 0 y' bt' maxL' ret' n sp) (hl : Cond.methodLink own index y' ∈ f_GW) (hin : Cond.instanceMethod y' ∈ f_GW) (hse : Cond.selects "java/lang/String" y' y' ∈ f_GW) (hd : decode bt pc = .ok (.invokevirtual index, 3)) (hn : pc + 3 = nx) : f_Snd (f_X p l e s m args below meth c maxL lo hi h mc sz D cA ad R) R pc (tr_callT (n + 1) maxL' sp nx) := by
  intro K hK G ls st M hk H locs lsA hL h1 h2 h3 hP hS
  subst hn
  have hlim := hB.lim
  have hts := hB.2.2.2.2.2.1
  obtain ⟨hCon, hh, hml, hcode, hini, hdd⟩ := hT
  unfold tr_callT at hk
  split at hk
  · rename_i b As r hp
    cases hw : f_txt b with
    | none => rw [hw] at hk; exact hk.elim
    | some i =>
      simp only [hw] at hk
      obtain ⟨hi6, hbi⟩ := f_txt_spec hw
      cases hc : (Nat.ble (f_cats (.ref b :: As)) maxL' && Nat.ble (f_cats r) 8) with
      | false => simp only [hc, cond_false] at hk
      | true =>
        simp only [hc, cond_true] at hk
        simp only [Bool.and_eq_true] at hc
        obtain ⟨e1, e2⟩ := f_pop_spec (n + 1) st [] (.ref b :: As) r hp
        have e1 : st = As.reverse ++ .ref b :: r := by
          have := e1.symm
          simpa using this
        have hM := hCon l D cA ad (sz + (G.1 - hi)) G (.ref b :: As) M _ hk (Nat.le_of_ble_eq_true hc.1) (Nat.le_trans hB.hlo h1) (by omega) (hB.Ad.grow hB.hlo h1 (by omega))
        have hstack : st.map (f_cv ad) = (As.map (f_cv ad)).reverse ++ .ref (ad b) :: r.map (f_cv ad) := by rw [e1, List.map_append, List.map_reverse]; rfl
        have hroom : ((r.map (f_cv ad)).map fun v => v.category).sum ≤ 8 := by rw [f_cats_sum]; exact Nat.le_of_ble_eq_true hc.2
        have hlen : (As.map (f_cv ad)).length = n := by rw [List.length_map]; simp at e2; omega
        have hrecv : ∃ cell : Cell, H[ad b]? = some cell ∧ cell.vm.isStatics = false ∧ s.vm.findClass "java/lang/String" = some cell.cls := by
          rw [hbi]
          exact vk_recv (adK := fun i => ad (2000 + i)) (i := i) hB.St.2.2.2.2.2.1 hi6 hS
        refine f_back (a := (Value.ref (ad b) :: As.map (f_cv ad)).toArray) (rest := r) hB h1 h3 (mc' := 0) (by omega) hS hK hL ?_
        rw [hstack]
        exact va_runV (As := As.map (f_cv ad)) (C := "java/lang/String") ⟨hB.1, hB.2.1, hB.2.2.1, hB.hown, hts⟩ hM ⟨callB_of n hts (f_GoodIn hcode) rfl rfl rfl (hB.ts hini) (hB.ts hl) hdd (f_room hh hml), hB.ts hin, hB.ts hse⟩ ⟨f_blind, hrecv, fun U hU hW => f_pre hB h1 h2 h3 hP hS (.ref b :: As) U hU hW⟩ rfl hlen hL.1 rfl (lv_room hroom) hd (f_cells (mc' := 0) h1 h2)
  · exact hk.elim
end FW
theorem f_nd {X : fK} {R : fR} {pc : Nat} {b : Bool} {t u : fTr} (h1 : f_Snd X R pc t) (h2 : f_Snd X R pc u) : f_Snd X R pc (bif b then t else u) := by cases b <;> assumption
theorem f_lf {X : fK} {R : fR} {pc k : Nat} {t : fTr} (h : f_Snd X R k t) : f_Snd X R pc (bif Nat.beq pc k then t else tr_none) := by
  cases hb : Nat.beq pc k with
  | true => rw [Nat.eq_of_beq_eq_true hb]; exact h
  | false => exact s_none
