theorem f_sh_big {o : Nat} (h : 2106 ≤ o) : f_sh o = .inr (.inr (.inr (.inr 99))) := by
  have hb : ∀ k, k ≤ 2105 → Nat.ble o k = false := fun k hk => by
    cases hq : Nat.ble o k with
    | false => rfl
    | true => have := Nat.le_of_ble_eq_true hq; omega
  have he : ∀ k, k ≤ 2105 → Nat.beq o k = false := fun k hk => by
    cases hq : Nat.beq o k with
    | false => rfl
    | true => have := Nat.eq_of_beq_eq_true hq; omega
  unfold f_sh
  simp [hb, he]
def f_sh_ok (o : Nat) : Bool := match f_sh o with
  | .inl (k, _) => Nat.blt k 3
  | .inr (.inr (.inl _)) => Nat.beq o 1000 || Nat.beq o 1001 || Nat.beq o 1002
  | _ => true
theorem f_sh_all : ∀ o, o < 2106 → f_sh_ok o = true := by decide +kernel
theorem f_sh_3 (o k n : Nat) : ¬ f_sh o = .inl (k + 1 + 1 + 1, n) := by
  intro h
  by_cases ho : o < 2106
  · have := f_sh_all o ho
    unfold f_sh_ok at this
    rw [h] at this
    have h2 := Nat.le_of_ble_eq_true this
    omega
  · rw [f_sh_big (by omega)] at h
    cases h
set_option maxRecDepth 20000 in
theorem f_sh_tab {o : Nat} {t : Nat × (Nat → Int32)} (_ : 1000 ≤ o) (h : f_sh o = .inr (.inr (.inl t))) : ∃ q ∈ f_tabs, q.1 = o ∧ q.2.2.2 = t := by
  by_cases ho : o < 2106
  · have h1 := f_sh_all o ho
    unfold f_sh_ok at h1
    rw [h] at h1
    simp only [Bool.or_eq_true] at h1
    rcases h1 with (h1 | h1) | h1
    · have e := Nat.eq_of_beq_eq_true h1
      subst e
      have : t = (7, f_tABOVE) := by have h2 := h.symm.trans (rfl : f_sh 1000 = .inr (.inr (.inl (7, f_tABOVE)))); injection h2 with h2; injection h2 with h2; injection h2
      subst this
      exact ⟨_, List.mem_cons_self, rfl, rfl⟩
    · have e := Nat.eq_of_beq_eq_true h1
      subst e
      have : t = (4, f_tBASE) := by have h2 := h.symm.trans (rfl : f_sh 1001 = .inr (.inr (.inl (4, f_tBASE)))); injection h2 with h2; injection h2 with h2; injection h2
      subst this
      exact ⟨_, List.mem_cons_of_mem _ List.mem_cons_self, rfl, rfl⟩
    · have e := Nat.eq_of_beq_eq_true h1
      subst e
      have : t = (21, f_tBODIES) := by have h2 := h.symm.trans (rfl : f_sh 1002 = .inr (.inr (.inl (21, f_tBODIES)))); injection h2 with h2; injection h2 with h2; injection h2
      subst this
      exact ⟨_, List.mem_cons_of_mem _ (List.mem_cons_of_mem _ List.mem_cons_self), rfl, rfl⟩
  · rw [f_sh_big (by omega)] at h
    cases h
theorem f_tab_spec {o : Nat} {t : Nat × (Nat → Int32)} (h : f_tab o = some t) : ∃ q ∈ f_tabs, q.1 = o ∧ q.2.2.2 = t := by
  unfold f_tab at h
  split at h
  · rename_i t' ht
    cases hb : Nat.ble 1000 o with
    | false => rw [hb] at h; cases h
    | true =>
      rw [hb] at h
      cases h
      exact f_sh_tab (Nat.le_of_ble_eq_true hb) ht
  · cases h
theorem f_len_spec {lo o n : Nat} {G : fG} (h : f_len lo G o = some n) : (∃ k, lo ≤ o ∧ o < G.1 ∧ f_sh o = .inl (k, n)) ∨ (∃ q ∈ f_tabs, q.1 = o ∧ q.2.2.2.1 = n) ∨ ∃ i, i < 6 ∧ f_slen.getD i 0 = n ∧ o = 2100 + i := by
  unfold f_len at h
  split at h
  · rename_i k n' hk
    cases hb : f_own lo G o with
    | false => rw [hb] at h; cases h
    | true =>
      rw [hb] at h
      obtain ⟨a, b⟩ := f_own_spec hb
      cases h
      exact Or.inl ⟨k, a, b, hk⟩
  · rename_i t' ht
    cases hb : Nat.ble 1000 o with
    | false => rw [hb] at h; cases h
    | true =>
      rw [hb] at h
      obtain ⟨q, h1, h2, h3⟩ := f_sh_tab (Nat.le_of_ble_eq_true hb) ht
      cases h
      exact Or.inr (Or.inl ⟨q, h1, h2, by rw [h3]⟩)
  · rename_i i hi
    cases hb : (Nat.beq o (2100 + i) && Nat.blt i 6) with
    | false => rw [hb] at h; cases h
    | true =>
      rw [hb] at h
      simp only [Bool.and_eq_true] at hb
      exact Or.inr (Or.inr ⟨i, Nat.le_of_ble_eq_true hb.2, Option.some.inj h, Nat.eq_of_beq_eq_true hb.1⟩)
  · cases h
section FTL
variable {p : Program} {l : Launch} {e : Env} {R : Room} {s : State} {m : MethodId} {args : Array Value} {below : List Frame} {meth : Method} {c : Code} {H : Heap} {locs : List Loc} {cells slots : Nat} {Q : State → Prop}
variable {cc : ByteArray} {pc : Nat} {ls : Array Slot} {rest : List Value} {A : Nat → Prop} {t N : Nat} {f : Nat → Value}
theorem f_tlen (hexec : p.tables.exec = Jvm.exec) (hb : c.code = cc) {ty : FieldType} (hT : va_T ty t N f A s s.heap) (hS : va_S A s.heap H locs) (hdg : decode cc pc = .ok (.arraylength, 1))
    (kk : W p l e R s m args below meth c H locs cells slots Q (F0 m (pc + 1) ls (.int (Int32.ofNat N) :: rest))) : W p l e R s m args below meth c H locs cells slots Q (F0 m pc ls (.ref t :: rest)) := by
  obtain ⟨cell, h1, h2, h3, h4, h5, h6, h7⟩ := hT
  exact W.alen hexec hb (by rw [hS.2.1 t (Array.getElem?_eq_some_iff.mp h1).1 h7]; exact h1) h2 h5 rfl rfl hdg kk
end FTL
section FN
variable {p : Program} {l : Launch} {e : Env} {s : State} {m : MethodId} {args : Array Value} {below : List Frame} {meth : Method} {c : Code} {own : String} {y : MethodName} {bt : ByteArray} {maxL : Nat} {ret : Option FieldType} {lo hi h mc sz : Nat} {D : va_G} {cA : Nat → ClassId} {ad : Nat → Nat} {R : fR}
theorem s_geti (hB : f_B p s m args meth c own y bt maxL ret lo hi mc sz D cA ad) {pc nx : Nat} {index ci k N : Nat} {C ref : String} {T : u_T} {ty : Nat → FieldType} (hC : f_CL ci C T N ty) (hkN : k < N) (hl : f_FL own index ref (T k).2.1 (T k).2.2.1) (href : (T k).1 = ref) (hfk : f_fk ci k = 0) (hd : decode bt pc = .ok (.getfield index, 3)) (hn : pc + 3 = nx) : f_Snd (f_X p l e s m args below meth c maxL lo hi h mc sz D cA ad R) R pc (tr_geti lo ci k nx) := by
  intro K hK G ls st M hk H locs lsA hL h1 h2 h3 hP hS
  subst hn
  unfold tr_geti at hk
  split at hk
  · rename_i o r
    cases hb : f_isO lo G o ci with
    | false => rw [hb] at hk; exact hk.elim
    | true =>
      rw [hb] at hk
      refine f_get hB hC hkN hl href hd hb hP ?_
      rw [hfk]
      exact (hK _ _ _ _ _ hk H locs lsA hL h1 h2 h3 hP hS)
  · exact hk.elim
theorem s_getl (hB : f_B p s m args meth c own y bt maxL ret lo hi mc sz D cA ad) {pc nx : Nat} {index ci k N : Nat} {C ref : String} {T : u_T} {ty : Nat → FieldType} (hC : f_CL ci C T N ty) (hkN : k < N) (hl : f_FL own index ref (T k).2.1 (T k).2.2.1) (href : (T k).1 = ref) (hfk : f_fk ci k = 1) (hd : decode bt pc = .ok (.getfield index, 3)) (hn : pc + 3 = nx) : f_Snd (f_X p l e s m args below meth c maxL lo hi h mc sz D cA ad R) R pc (tr_getl lo ci k nx) := by
  intro K hK G ls st M hk H locs lsA hL h1 h2 h3 hP hS
  subst hn
  unfold tr_getl at hk
  split at hk
  · rename_i o r
    cases hb : f_isO lo G o ci with
    | false => rw [hb] at hk; exact hk.elim
    | true =>
      rw [hb] at hk
      refine f_get hB hC hkN hl href hd hb hP ?_
      rw [hfk]
      exact (hK _ _ _ _ _ hk H locs lsA hL h1 h2 h3 hP hS)
  · exact hk.elim
theorem s_getr (hB : f_B p s m args meth c own y bt maxL ret lo hi mc sz D cA ad) {pc nx : Nat} {index ci k N : Nat} {C ref : String} {T : u_T} {ty : Nat → FieldType} (hC : f_CL ci C T N ty) (hkN : k < N) (hl : f_FL own index ref (T k).2.1 (T k).2.2.1) (href : (T k).1 = ref) (hfk : f_fk ci k = 2) (hd : decode bt pc = .ok (.getfield index, 3)) (hn : pc + 3 = nx) : f_Snd (f_X p l e s m args below meth c maxL lo hi h mc sz D cA ad R) R pc (tr_getr lo ci k nx) := by
  intro K hK G ls st M hk H locs lsA hL h1 h2 h3 hP hS
  subst hn
  unfold tr_getr at hk
  split at hk
  · rename_i o r
    cases hb : f_isO lo G o ci with
    | false => rw [hb] at hk; exact hk.elim
    | true =>
      rw [hb] at hk
      refine f_get hB hC hkN hl href hd hb hP ?_
      rw [hfk]
      exact (hK _ _ _ _ _ hk H locs lsA hL h1 h2 h3 hP hS)
  · exact hk.elim
theorem s_puti (hB : f_B p s m args meth c own y bt maxL ret lo hi mc sz D cA ad) {pc nx : Nat} {index ci k N : Nat} {C ref : String} {T : u_T} {ty : Nat → FieldType} (hC : f_CL ci C T N ty) (hkN : k < N) (hl : f_FL own index ref (T k).2.1 (T k).2.2.1) (href : (T k).1 = ref) (hfin : (T k).2.2.2 = false ∨ ((T k).2.2.2 = true ∧ y.name = "<init>" ∧ (T k).1 = own ∧ Cond.fieldLink own index ref (T k).2.1 (T k).2.2.1 ∈ f_GW)) (hfk : f_fk ci k = 0) (hty : ty k = .int) (hd : decode bt pc = .ok (.putfield index, 3)) (hn : pc + 3 = nx) : f_Snd (f_X p l e s m args below meth c maxL lo hi h mc sz D cA ad R) R pc (tr_puti lo ci k nx) := by
  intro K hK G ls st M hk H locs lsA hL h1 h2 h3 hP hS
  subst hn
  unfold tr_puti at hk
  split at hk
  · rename_i v o r
    cases hb : f_isO lo G o ci with
    | false => rw [hb] at hk; exact hk.elim
    | true =>
      rw [hb] at hk
      obtain ⟨g1, g2, g3⟩ := f_isO_spec hb
      refine f_put (v := .int v) hB hC hkN hl href hfin hd (by rw [hty]; rfl) (by rw [hty]; rfl) hb hP (fun H' i e0 e1 e2 => ?_)
      rw [f_fv_up hfk] at e0
      refine hK _ _ _ _ _ hk H' _ lsA hL h1 h2 (e1.trans h3) (hP.set (c := o) rfl (hB.ne h1 h2 g1 g2) ?_ (fun d hd => f_cell_same (f_up_ne hd) rfl rfl) e2) (hS.put e1 e2 (hB.A h1 h2 g1 g2))
      rw [f_cell_O g3]
      exact e0
  · exact hk.elim
theorem s_putz (hB : f_B p s m args meth c own y bt maxL ret lo hi mc sz D cA ad) {pc nx : Nat} {index ci k N : Nat} {C ref : String} {T : u_T} {ty : Nat → FieldType} (hC : f_CL ci C T N ty) (hkN : k < N) (hl : f_FL own index ref (T k).2.1 (T k).2.2.1) (href : (T k).1 = ref) (hfin : (T k).2.2.2 = false ∨ ((T k).2.2.2 = true ∧ y.name = "<init>" ∧ (T k).1 = own ∧ Cond.fieldLink own index ref (T k).2.1 (T k).2.2.1 ∈ f_GW)) (hfk : f_fk ci k = 0) (hty : ty k = .boolean) (hd : decode bt pc = .ok (.putfield index, 3)) (hn : pc + 3 = nx) : f_Snd (f_X p l e s m args below meth c maxL lo hi h mc sz D cA ad R) R pc (tr_putz lo ci k nx) := by
  intro K hK G ls st M hk H locs lsA hL h1 h2 h3 hP hS
  subst hn
  unfold tr_putz at hk
  split at hk
  · rename_i v o r
    cases hb : f_isO lo G o ci with
    | false => rw [hb] at hk; exact hk.elim
    | true =>
      rw [hb] at hk
      obtain ⟨g1, g2, g3⟩ := f_isO_spec hb
      refine f_put (v := .int v) hB hC hkN hl href hfin hd (by rw [hty]; rcases hk.1 with q | q <;> rw [q] <;> rfl) (by rw [hty]; rcases hk.1 with q | q <;> rw [q] <;> rfl) hb hP (fun H' i e0 e1 e2 => ?_)
      rw [f_fv_up hfk] at e0
      refine hK _ _ _ _ _ hk.2 H' _ lsA hL h1 h2 (e1.trans h3) (hP.set (c := o) rfl (hB.ne h1 h2 g1 g2) ?_ (fun d hd => f_cell_same (f_up_ne hd) rfl rfl) e2) (hS.put e1 e2 (hB.A h1 h2 g1 g2))
      rw [f_cell_O g3]
      exact e0
  · exact hk.elim
theorem s_putl (hB : f_B p s m args meth c own y bt maxL ret lo hi mc sz D cA ad) {pc nx : Nat} {index ci k N : Nat} {C ref : String} {T : u_T} {ty : Nat → FieldType} (hC : f_CL ci C T N ty) (hkN : k < N) (hl : f_FL own index ref (T k).2.1 (T k).2.2.1) (href : (T k).1 = ref) (hfin : (T k).2.2.2 = false ∨ ((T k).2.2.2 = true ∧ y.name = "<init>" ∧ (T k).1 = own ∧ Cond.fieldLink own index ref (T k).2.1 (T k).2.2.1 ∈ f_GW)) (hfk : f_fk ci k = 1) (hty : ty k = .long) (hd : decode bt pc = .ok (.putfield index, 3)) (hn : pc + 3 = nx) : f_Snd (f_X p l e s m args below meth c maxL lo hi h mc sz D cA ad R) R pc (tr_putl lo ci k nx) := by
  intro K hK G ls st M hk H locs lsA hL h1 h2 h3 hP hS
  subst hn
  unfold tr_putl at hk
  split at hk
  · rename_i v o r
    cases hb : f_isO lo G o ci with
    | false => rw [hb] at hk; exact hk.elim
    | true =>
      rw [hb] at hk
      obtain ⟨g1, g2, g3⟩ := f_isO_spec hb
      refine f_put (v := .long v) hB hC hkN hl href hfin hd (by rw [hty]; rfl) (by rw [hty]; rfl) hb hP (fun H' i e0 e1 e2 => ?_)
      rw [f_fv_upL hfk] at e0
      refine hK _ _ _ _ _ hk H' _ lsA hL h1 h2 (e1.trans h3) (hP.set (c := o) rfl (hB.ne h1 h2 g1 g2) ?_ (fun d hd => f_cell_same rfl (f_upL_ne hd) rfl) e2) (hS.put e1 e2 (hB.A h1 h2 g1 g2))
      rw [f_cell_O g3]
      exact e0
  · exact hk.elim
theorem s_putr (hB : f_B p s m args meth c own y bt maxL ret lo hi mc sz D cA ad) {pc nx : Nat} {index ci k N : Nat} {C ref : String} {T : u_T} {ty : Nat → FieldType} (hC : f_CL ci C T N ty) (hkN : k < N) (hl : f_FL own index ref (T k).2.1 (T k).2.2.1) (href : (T k).1 = ref) (hfin : (T k).2.2.2 = false ∨ ((T k).2.2.2 = true ∧ y.name = "<init>" ∧ (T k).1 = own ∧ Cond.fieldLink own index ref (T k).2.1 (T k).2.2.1 ∈ f_GW)) (hfk : f_fk ci k = 2) (hty : (∃ n, ty k = .object n) ∨ ∃ t, ty k = .array t) (hd : decode bt pc = .ok (.putfield index, 3)) (hn : pc + 3 = nx) : f_Snd (f_X p l e s m args below meth c maxL lo hi h mc sz D cA ad R) R pc (tr_putr lo ci k nx) := by
  intro K hK G ls st M hk H locs lsA hL h1 h2 h3 hP hS
  subst hn
  unfold tr_putr at hk
  split at hk
  · rename_i v o r
    cases hb : f_isO lo G o ci with
    | false => rw [hb] at hk; exact hk.elim
    | true =>
      rw [hb] at hk
      obtain ⟨g1, g2, g3⟩ := f_isO_spec hb
      refine f_put (v := .ref (ad v)) hB hC hkN hl href hfin hd (by rcases hty with ⟨_, q⟩ | ⟨_, q⟩ <;> rw [q] <;> rfl) (by rcases hty with ⟨_, q⟩ | ⟨_, q⟩ <;> rw [q] <;> rfl) hb hP (fun H' i e0 e1 e2 => ?_)
      rw [show (Value.ref (ad v)) = f_cv ad (.ref v) from rfl, f_fv_upR hfk] at e0
      refine hK _ _ _ _ _ hk H' _ lsA hL h1 h2 (e1.trans h3) (hP.set (c := o) rfl (hB.ne h1 h2 g1 g2) ?_ (fun d hd => f_cell_same rfl rfl (f_upR_ne hd)) e2) (hS.put e1 e2 (hB.A h1 h2 g1 g2))
      rw [f_cell_O g3]
      exact e0
  · exact hk.elim
theorem s_iald (hB : f_B p s m args meth c own y bt maxL ret lo hi mc sz D cA ad) {pc nx : Nat} (hd : decode bt pc = .ok (.iaload, 1)) (hn : pc + 1 = nx) : f_Snd (f_X p l e s m args below meth c maxL lo hi h mc sz D cA ad R) R pc (tr_iald lo nx) := by
  intro K hK G ls st M hk H locs lsA hL h1 h2 h3 hP hS
  subst hn
  unfold tr_iald at hk
  split at hk
  · rename_i i o r
    unfold f_arI at hk
    cases hw : f_arW lo G o 0 with
    | some n =>
      rw [hw] at hk
      obtain ⟨g1, g2, g3⟩ := f_arW_spec hw
      exact va_iald (D := D) hB.1 hB.2.1 hB.K (hP.one g1 g2 (f_cell_A0 g3)) 0 0 rfl rfl hk.1 hd (hK _ _ _ _ _ hk.2 H locs lsA hL h1 h2 h3 hP hS)
    | none =>
      rw [hw] at hk
      cases ht : f_tab o with
      | none => rw [ht] at hk; exact hk.elim
      | some t =>
        rw [ht] at hk
        obtain ⟨q, hq, h5, h6⟩ := f_tab_spec ht
        refine va_ti (f := fun j => .int (t.2 j)) hB.1 hB.2.1 ?_ hS (i := i) (N := t.1) hk.1 rfl hd (hK _ _ _ _ _ hk.2 H locs lsA hL h1 h2 h3 hP hS)
        have := (hB.St.2.2.1 q hq).2
        rw [h5, h6] at this
        exact this
  · exact hk.elim
theorem s_lald (hB : f_B p s m args meth c own y bt maxL ret lo hi mc sz D cA ad) {pc nx : Nat} (hd : decode bt pc = .ok (.laload, 1)) (hn : pc + 1 = nx) : f_Snd (f_X p l e s m args below meth c maxL lo hi h mc sz D cA ad R) R pc (tr_lald lo nx) := by
  intro K hK G ls st M hk H locs lsA hL h1 h2 h3 hP hS
  subst hn
  unfold tr_lald at hk
  split at hk
  · rename_i i o r
    cases hw : f_arW lo G o 1 with
    | some n =>
      rw [hw] at hk
      obtain ⟨g1, g2, g3⟩ := f_arW_spec hw
      exact va_lald (D := D) hB.1 hB.2.1 hB.K (hP.one g1 g2 (f_cell_A1 g3)) 0 1 rfl rfl hk.1 hd (hK _ _ _ _ _ hk.2 H locs lsA hL h1 h2 h3 hP hS)
    | none => rw [hw] at hk; exact hk.elim
  · exact hk.elim
theorem s_zald (hB : f_B p s m args meth c own y bt maxL ret lo hi mc sz D cA ad) {pc nx : Nat} (hd : decode bt pc = .ok (.baload, 1)) (hn : pc + 1 = nx) : f_Snd (f_X p l e s m args below meth c maxL lo hi h mc sz D cA ad R) R pc (tr_zald lo nx) := by
  intro K hK G ls st M hk H locs lsA hL h1 h2 h3 hP hS
  subst hn
  unfold tr_zald at hk
  split at hk
  · rename_i i o r
    cases hw : f_arW lo G o 2 with
    | some n =>
      rw [hw] at hk
      obtain ⟨g1, g2, g3⟩ := f_arW_spec hw
      exact va_zald (D := D) hB.1 hB.2.1 hB.K (hP.one g1 g2 (f_cell_A2 g3)) 0 2 rfl rfl hk.1 hd (hK _ _ _ _ _ hk.2 H locs lsA hL h1 h2 h3 hP hS)
    | none => rw [hw] at hk; exact hk.elim
  · exact hk.elim
theorem s_iast (hB : f_B p s m args meth c own y bt maxL ret lo hi mc sz D cA ad) {pc nx : Nat} (hd : decode bt pc = .ok (.iastore, 1)) (hn : pc + 1 = nx) : f_Snd (f_X p l e s m args below meth c maxL lo hi h mc sz D cA ad R) R pc (tr_iast lo nx) := by
  intro K hK G ls st M hk H locs lsA hL h1 h2 h3 hP hS
  subst hn
  unfold tr_iast at hk
  split at hk
  · rename_i v i o r
    cases hw : f_arW lo G o 0 with
    | none => rw [hw] at hk; exact hk.elim
    | some n =>
      rw [hw] at hk
      obtain ⟨g1, g2, g3⟩ := f_arW_spec hw
      have hP1 := hP.one g1 g2 (f_cell_A0 g3)
      refine W.iast hB.1 hB.2.1 (hP1 0 _ rfl) ((hB.K.2 0 _ rfl).1 n (fun j => .int (M.1 o j))) (fun q => by cases q) (by show ¬ (i < 0 ∨ (arrV _ _ _).slots.size ≤ _); rw [arrV_size]; exact hk.1) rfl rfl hd fun H1 e0 z oq => ?_
      refine hK _ _ _ _ _ hk.2 H1 _ lsA hL h1 h2 (z.trans h3) (hP.set (c := o) rfl (hB.ne h1 h2 g1 g2) ?_ (fun d hd => f_cell_same (f_up_ne hd) rfl rfl) oq) (hS.put z oq (hB.A h1 h2 g1 g2))
      rw [f_cell_A0 g3]
      show H1[ad o]? = some (vp_cell _ _)
      rw [e0]
      rw [vp_cell_i, vp_cell_i, arrV_store]
      congr 2
      funext q
      show _ = Value.int (f_up M.1 o i.toNatClampNeg v o q)
      by_cases hq : q = i.toNatClampNeg
      · subst hq
        simp [updV, f_up]
      · simp [updV, f_up, hq]
  · exact hk.elim
theorem s_last (hB : f_B p s m args meth c own y bt maxL ret lo hi mc sz D cA ad) {pc nx : Nat} (hd : decode bt pc = .ok (.lastore, 1)) (hn : pc + 1 = nx) : f_Snd (f_X p l e s m args below meth c maxL lo hi h mc sz D cA ad R) R pc (tr_last lo nx) := by
  intro K hK G ls st M hk H locs lsA hL h1 h2 h3 hP hS
  subst hn
  unfold tr_last at hk
  split at hk
  · rename_i v i o r
    cases hw : f_arW lo G o 1 with
    | none => rw [hw] at hk; exact hk.elim
    | some n =>
      rw [hw] at hk
      obtain ⟨g1, g2, g3⟩ := f_arW_spec hw
      have hP1 := hP.one g1 g2 (f_cell_A1 g3)
      refine W.last hB.1 hB.2.1 (hP1 0 _ rfl) ((hB.K.2 1 _ rfl).1 n (fun j => .long (M.2 o j))) (fun q => by cases q) (by show ¬ (i < 0 ∨ (arrV _ _ _).slots.size ≤ _); rw [arrV_size]; exact hk.1) rfl rfl hd fun H1 e0 z oq => ?_
      refine hK _ _ _ _ _ hk.2 H1 _ lsA hL h1 h2 (z.trans h3) (hP.set (c := o) rfl (hB.ne h1 h2 g1 g2) ?_ (fun d hd => f_cell_same rfl (f_upL_ne hd) rfl) oq) (hS.put z oq (hB.A h1 h2 g1 g2))
      rw [f_cell_A1 g3]
      show H1[ad o]? = some (vp_cell _ _)
      rw [e0]
      rw [vp_cell_l, vp_cell_l, arrV_store]
      congr 2
      funext q
      show _ = Value.long (f_upL M.2 o i.toNatClampNeg v o q)
      by_cases hq : q = i.toNatClampNeg
      · subst hq
        simp [updV, f_upL]
      · simp [updV, f_upL, hq]
  · exact hk.elim
theorem s_zast (hB : f_B p s m args meth c own y bt maxL ret lo hi mc sz D cA ad) {pc nx : Nat} (hd : decode bt pc = .ok (.bastore, 1)) (hn : pc + 1 = nx) : f_Snd (f_X p l e s m args below meth c maxL lo hi h mc sz D cA ad R) R pc (tr_zast lo nx) := by
  intro K hK G ls st M hk H locs lsA hL h1 h2 h3 hP hS
  subst hn
  unfold tr_zast at hk
  split at hk
  · rename_i v i o r
    cases hw : f_arW lo G o 2 with
    | none => rw [hw] at hk; exact hk.elim
    | some n =>
      rw [hw] at hk
      obtain ⟨g1, g2, g3⟩ := f_arW_spec hw
      have hP1 := hP.one g1 g2 (f_cell_A2 g3)
      refine W.zast hB.1 hB.2.1 (hP1 0 _ rfl) ((hB.K.2 2 _ rfl).1 n (fun j => .int (M.1 o j))) (fun q => by cases q) (by show ¬ (i < 0 ∨ (arrV _ _ _).slots.size ≤ _); rw [arrV_size]; exact hk.1) rfl rfl hd fun H1 e0 z oq => ?_
      refine hK _ _ _ _ _ hk.2.2 H1 _ lsA hL h1 h2 (z.trans h3) (hP.set (c := o) rfl (hB.ne h1 h2 g1 g2) ?_ (fun d hd => f_cell_same (f_up_ne hd) rfl rfl) oq) (hS.put z oq (hB.A h1 h2 g1 g2))
      rw [f_cell_A2 g3]
      show H1[ad o]? = some (vp_cell _ _)
      rw [e0]
      rw [vp_cell_i, vp_cell_i, arrV_store]
      congr 2
      funext q
      show _ = Value.int (f_up M.1 o i.toNatClampNeg v o q)
      by_cases hq : q = i.toNatClampNeg
      · subst hq
        rcases hk.2.1 with q | q <;> rw [q] <;> simp [updV, f_up] <;> rfl
      · simp [updV, f_up, hq]
  · exact hk.elim
theorem s_alen (hB : f_B p s m args meth c own y bt maxL ret lo hi mc sz D cA ad) {pc nx : Nat} (hd : decode bt pc = .ok (.arraylength, 1)) (hn : pc + 1 = nx) : f_Snd (f_X p l e s m args below meth c maxL lo hi h mc sz D cA ad R) R pc (tr_alen lo nx) := by
  intro K hK G ls st M hk H locs lsA hL h1 h2 h3 hP hS
  subst hn
  unfold tr_alen at hk
  split at hk
  · rename_i o r
    cases hw : f_len lo G o with
    | none => rw [hw] at hk; exact hk.elim
    | some n =>
      rw [hw] at hk
      rcases f_len_spec hw with ⟨k, g1, g2, g3⟩ | ⟨q, hq, h5, h6⟩ | ⟨i, hi, h5, h6⟩
      · cases k with
        | zero => exact va_alen (D := D) hB.1 hB.2.1 hB.K (hP.one g1 g2 (f_cell_A0 g3)) 0 0 rfl (ty := .int) rfl rfl hd (hK _ _ _ _ _ hk H locs lsA hL h1 h2 h3 hP hS)
        | succ k => cases k with
          | zero => exact va_alen (D := D) hB.1 hB.2.1 hB.K (hP.one g1 g2 (f_cell_A1 g3)) 0 1 rfl (ty := .long) rfl rfl hd (hK _ _ _ _ _ hk H locs lsA hL h1 h2 h3 hP hS)
          | succ k => cases k with
            | zero => exact va_alen (D := D) hB.1 hB.2.1 hB.K (hP.one g1 g2 (f_cell_A2 g3)) 0 2 rfl (ty := .boolean) rfl rfl hd (hK _ _ _ _ _ hk H locs lsA hL h1 h2 h3 hP hS)
            | succ k => exact absurd g3 (f_sh_3 o k n)
      · have := (hB.St.2.2.1 q hq).2
        rw [h5, h6] at this
        exact f_tlen hB.1 hB.2.1 this hS hd (hK _ _ _ _ _ hk H locs lsA hL h1 h2 h3 hP hS)
      · have := (hB.St.2.2.2.2.2.1.1 i hi).2.2.2
        subst h6
        rw [h5] at this
        exact f_tlen hB.1 hB.2.1 this hS hd (hK _ _ _ _ _ hk H locs lsA hL h1 h2 h3 hP hS)
  · exact hk.elim
theorem f_end {G : fG} (h1 : hi ≤ G.1) (h2 : G.1 ≤ hi + mc) (hmc : mc = 0) : G.1 = hi + mc := by omega
theorem f_sl_mono (a : Nat) {x z : Nat} (hx : x ≤ z) : f_sl a x ≤ f_sl a z := by
  obtain ⟨d, rfl⟩ : ∃ d, z = x + d := ⟨z - x, by omega⟩
  rw [f_sl_add]; omega
theorem f_sl_le (hi : Nat) {G : fG} {mc : Nat} (h1 : hi ≤ G.1) (h2 : G.1 ≤ hi + mc) : f_sl hi (G.1 - hi) ≤ f_sl hi mc := f_sl_mono hi (by omega)
theorem s_iret (hB : f_B p s m args meth c own y bt maxL ret lo hi mc sz D cA ad) {pc nx : Nat} (hmc : mc = 0) (hr0 : ret = some .int) (hd : decode bt pc = .ok (.ireturn, 1)) : f_Snd (f_X p l e s m args below meth c maxL lo hi h mc sz D cA ad R) R pc (tr_iret) := by
  intro K hK G ls st M hk H locs lsA hL h1 h2 h3 hP hS
  unfold tr_iret at hk
  split at hk
  · have hms := f_sl_le hi h1 h2
    refine W.widen (k := mc) (n := f_sl hi mc) (by omega) hms ?_
    exact W.iret (v := _) hB.1 hB.2.1 (by rw [hB.2.2.2.1]; exact hr0) (fun t ht hW => ⟨G, _, M, rfl, hk, f_end h1 h2 hmc, by rw [ht, h3]; have := f_end h1 h2 hmc; omega, by rw [ht]; exact hP, hS.F ht⟩) hS.2.2 hd hB.2.2.2.2.2.2.1
  · exact hk.elim
theorem s_zret (hB : f_B p s m args meth c own y bt maxL ret lo hi mc sz D cA ad) {pc nx : Nat} {rt : FieldType} (hmc : mc = 0) (hr0 : ret = some rt) (hd : decode bt pc = .ok (.ireturn, 1)) : f_Snd (f_X p l e s m args below meth c maxL lo hi h mc sz D cA ad R) R pc (tr_zret rt) := by
  intro K hK G ls st M hk H locs lsA hL h1 h2 h3 hP hS
  unfold tr_zret at hk
  split at hk
  · have hms := f_sl_le hi h1 h2
    refine W.widen (k := mc) (n := f_sl hi mc) (by omega) hms ?_
    exact W.zret (v := _) hB.1 hB.2.1 (by rw [hB.2.2.2.1]; exact hr0) hk.1 (fun t ht hW => ⟨G, _, M, rfl, hk.2, f_end h1 h2 hmc, by rw [ht, h3]; have := f_end h1 h2 hmc; omega, by rw [ht]; exact hP, hS.F ht⟩) hS.2.2 hd hB.2.2.2.2.2.2.1
  · exact hk.elim
theorem s_lret (hB : f_B p s m args meth c own y bt maxL ret lo hi mc sz D cA ad) {pc nx : Nat} (hmc : mc = 0) (hr0 : ret = some .long) (hd : decode bt pc = .ok (.lreturn, 1)) : f_Snd (f_X p l e s m args below meth c maxL lo hi h mc sz D cA ad R) R pc (tr_lret) := by
  intro K hK G ls st M hk H locs lsA hL h1 h2 h3 hP hS
  unfold tr_lret at hk
  split at hk
  · have hms := f_sl_le hi h1 h2
    refine W.widen (k := mc) (n := f_sl hi mc) (by omega) hms ?_
    exact W.lret (v := _) hB.1 hB.2.1 (by rw [hB.2.2.2.1]; exact hr0) (fun t ht hW => ⟨G, _, M, rfl, hk, f_end h1 h2 hmc, by rw [ht, h3]; have := f_end h1 h2 hmc; omega, by rw [ht]; exact hP, hS.F ht⟩) hS.2.2 hd hB.2.2.2.2.2.2.1
  · exact hk.elim
theorem s_aret (hB : f_B p s m args meth c own y bt maxL ret lo hi mc sz D cA ad) {pc nx : Nat} {rt : FieldType} (hrt : (∃ n, rt = .object n) ∨ ∃ t, rt = .array t) (hmc : mc = 0) (hr0 : ret = some rt) (hd : decode bt pc = .ok (.areturn, 1)) : f_Snd (f_X p l e s m args below meth c maxL lo hi h mc sz D cA ad R) R pc (tr_aret) := by
  intro K hK G ls st M hk H locs lsA hL h1 h2 h3 hP hS
  unfold tr_aret at hk
  split at hk
  · have hms := f_sl_le hi h1 h2
    refine W.widen (k := mc) (n := f_sl hi mc) (by omega) hms ?_
    exact W.aret (v := _) hB.1 hB.2.1 (by rw [hB.2.2.2.1]; exact hr0) hrt (Or.inr ⟨_, rfl⟩) (fun t ht hW => ⟨G, _, M, rfl, hk, f_end h1 h2 hmc, by rw [ht, h3]; have := f_end h1 h2 hmc; omega, by rw [ht]; exact hP, hS.F ht⟩) hS.2.2 hd hB.2.2.2.2.2.2.1
  · exact hk.elim
theorem s_vret (hB : f_B p s m args meth c own y bt maxL ret lo hi mc sz D cA ad) {pc nx : Nat} (hmc : mc = 0) (hr0 : ret = none) (hd : decode bt pc = .ok (.return_, 1)) : f_Snd (f_X p l e s m args below meth c maxL lo hi h mc sz D cA ad R) R pc (tr_vret) := by
  intro K hK G ls st M hk H locs lsA hL h1 h2 h3 hP hS
  unfold tr_vret at hk
  split at hk
  · have hms := f_sl_le hi h1 h2
    refine W.widen (k := mc) (n := f_sl hi mc) (by omega) hms ?_
    exact W.vret hB.1 hB.2.1 (by rw [hB.2.2.2.1]; exact hr0) (fun t ht hW => ⟨G, _, M, rfl, hk, f_end h1 h2 hmc, by rw [ht, h3]; have := f_end h1 h2 hmc; omega, by rw [ht]; exact hP, hS.F ht⟩) hS.2.2 hd hB.2.2.2.2.2.2.1
  · exact hk.elim
end FN
