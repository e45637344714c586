/-! ===== THE FRAME, constructors ===== -/
def f_zero (M : fMem) (G : fG) (c : Nat) : Prop := (∀ k, M.1 c k = 0) ∧ (∀ k, M.2 c k = 0) ∧ ∀ k, G.2 c k = .null
def tr_new (ci lim nx : Nat) : fTr := fun _ K G ls st M => match f_sh G.1 with
  | .inr (.inl j) => bif (Nat.beq j ci && Nat.blt G.1 lim) then (f_zero M G G.1 ∧ K (G.1 + 1, G.2) nx ls (.ref G.1 :: st) M) else False
  | _ => False
def tr_newa (kd lim nx : Nat) : fTr := fun _ K G ls st M => match st with
  | .int n :: r => match f_sh G.1 with
    | .inl (k, N) => bif (Nat.beq k kd && (Nat.blt G.1 lim && Nat.blt N 2000)) then (n = Int32.ofNat N ∧ f_zero M G G.1 ∧ K (G.1 + 1, G.2) nx ls (.ref G.1 :: r) M) else False
    | _ => False
  | _ => False
def tr_obj (nx : Nat) : fTr := fun _ K G ls st M => match st with
  | .ref _ :: r => bif Nat.ble (f_cats r) 8 then K G nx ls r M else False
  | _ => False
def tr_callN (n w mc' lim : Nat) (sp : fSp) (nx : Nat) : fTr := fun _ K G ls st M => match f_pop n st [] with
  | some (.ref b :: As, r) => bif (Nat.ble (f_cats (.ref b :: As)) w && (Nat.ble (f_cats r) 8 && Nat.ble (G.1 + mc') lim)) then sp G (.ref b :: As) M (fun G' v M' => K G' nx ls (f_ans v r) M') else False
  | _ => False
def tr_vretN (lim : Nat) : fTr := fun R _ G _ st M => match st with
  | [] => G.1 = lim ∧ R G none M
  | _ => False
def f_dv : Nat → Value
  | 0 => .int 0
  | 1 => .long 0
  | _ => .null
def f_at0 : Nat → ArrayType
  | 0 => .int
  | 1 => .long
  | _ => .boolean
def f_ft0 : Nat → FieldType
  | 0 => .int
  | 1 => .long
  | _ => .boolean
section FNW
variable {p : Program} {l : Launch} {e : Env} {s : State} {m : MethodId} {args : Array Value} {below : List Frame} {meth : Method} {c : Code} {own : String} {y : MethodName} {bt : ByteArray} {maxL : Nat} {ret : Option FieldType} {lo hi h mc sz : Nat} {D : va_G} {cA : Nat → ClassId} {ad : Nat → Nat} {R : fR}
theorem f_sl_step {G : fG} (h1 : hi ≤ G.1) : f_sl hi (G.1 + 1 - hi) = f_sl hi (G.1 - hi) + f_sz G.1 := by
  rw [show G.1 + 1 - hi = (G.1 - hi) + 1 by omega]
  show f_sl hi (G.1 - hi) + f_sz (hi + (G.1 - hi)) = _
  rw [show hi + (G.1 - hi) = G.1 by omega]
theorem s_obj (hB : f_B p s m args meth c own y bt maxL ret lo hi mc sz D cA ad) {pc nx index : Nat} (hh : 1 ≤ h) (hl : Cond.methodLink own index objectInit ∈ f_GW) (hin : Cond.instanceMethod objectInit ∈ f_GW) (hco : Cond.code objectInit ⟨#[0xb1]⟩ 1 none ∈ f_GW) (hd : decode bt pc = .ok (.invokespecial index, 3)) (hn : pc + 3 = nx) : f_Snd (f_X p l e s m args below meth c maxL lo hi h mc sz D cA ad R) R pc (tr_obj nx) := by
  intro K hK G ls st M hk H locs lsA hL h1 h2 h3 hP hS
  subst hn
  unfold tr_obj at hk
  split at hk
  · rename_i o r
    cases hc : Nat.ble (f_cats r) 8 with
    | false => simp only [hc, cond_false] at hk
    | true =>
      simp only [hc, cond_true] at hk
      have hroom : ((r.map (f_cv ad)).map fun v => v.category).sum ≤ 8 := by rw [f_cats_sum]; exact Nat.le_of_ble_eq_true hc
      refine W.objInit hB.1 hB.2.1 hB.hown (hB.ts hl) (hB.ts hin) (hB.ts hco) rfl (by rw [hB.2.2.1]; exact hL.1) rfl hd hh ?_ (W.eq (g2 := F0 m (pc + 3) lsA (r.map (f_cv ad))) rfl (hK _ _ _ _ _ hk H locs lsA hL h1 h2 h3 hP hS))
      have := lv_room (m := m) (pc := pc) (ls := lsA) (rest := []) hroom
      show _ ≤ 64 * h
      have e0 : ∀ x : List Value, (F0 m pc lsA x).monitorRoom = (F0 m pc lsA []).monitorRoom := fun x => rfl
      rw [e0]
      omega
  · exact hk.elim
theorem s_new (hB : f_B p s m args meth c own y bt maxL ret lo hi mc sz D cA ad) {pc nx index ci N lim : Nat} {C : String} {T : u_T} {ty : Nat → FieldType} (hC : f_CL ci C T N ty) (hdv : ∀ j, j < N → defaultValue (ty j) = f_dv (f_fk ci j)) (hlim : lim = hi + mc) (hcl : Cond.classLink own index C ∈ f_GW) (hins : Cond.instantiable C N ∈ f_GW) (hini : Cond.initialized C ∈ f_GW) (hd : decode bt pc = .ok (.new index, 3)) (hn : pc + 3 = nx) : f_Snd (f_X p l e s m args below meth c maxL lo hi h mc sz D cA ad R) R pc (tr_new ci lim nx) := by
  intro K hK G ls st M hk H locs lsA hL h1 h2 h3 hP hS
  subst hn
  have hl90 := hB.lim
  obtain ⟨hc, hN, hin0, hty, hnm⟩ := hC
  have hts := hB.2.2.2.2.2.1
  have hin : ∀ w ∈ u_ws C T N, w ∈ f_ws y bt maxL ret := fun w hw => List.mem_cons_of_mem _ (hin0 w hw)
  unfold tr_new at hk
  split at hk
  · rename_i j hj
    cases hb : (Nat.beq j ci && Nat.blt G.1 lim) with
    | false => simp only [hb, cond_false] at hk
    | true =>
      simp only [hb, cond_true] at hk
      simp only [Bool.and_eq_true] at hb
      have ej := Nat.eq_of_beq_eq_true hb.1
      subst ej
      have hlt : G.1 < lim := Nat.le_of_ble_eq_true hb.2
      obtain ⟨hz, hk⟩ := hk
      have hKn := hB.K.1 j _ hc
      have hszc : f_sz G.1 = N := by unfold f_sz; rw [hj]; exact hN
      have hstep := f_sl_step (hi := hi) h1
      have hmono : f_sl hi (G.1 + 1 - hi) ≤ f_sl hi mc := f_sl_mono hi (by omega)
      refine W.newcK hB.1 hB.2.1 hB.hown (hB.ts hcl) (hB.ts hins) (hB.ts hini) rfl hd (show G.1 - hi + 1 ≤ mc by omega) (show f_sl hi (G.1 - hi) + N ≤ f_sl hi mc by omega) hKn.2.1 rfl fun H1 kC hkC e1 z1 o1 => ?_
      have hadr : ad G.1 = H.size := by rw [hB.Ad.1 G.1 h1 (by omega), h3]
      have k1 : G.1 - hi + 1 = G.1 + 1 - hi := by omega
      have k2 : f_sl hi (G.1 - hi) + N = f_sl hi (G.1 + 1 - hi) := by omega
      have hOB := (u_born ty hts hin hKn hkC e1 hty).to (V' := vp_V ((List.range (f_nf j)).map (fun k => f_fv ad (G.1 + 1, G.2) M G.1 k (f_fk j k)))) (fun k hk0 => by
        rw [hdv k hk0]
        have : vp_V ((List.range (f_nf j)).map (fun k => f_fv ad (G.1 + 1, G.2) M G.1 k (f_fk j k))) k = f_fv ad (G.1 + 1, G.2) M G.1 k (f_fk j k) := by
          unfold vp_V; rw [List.getD_eq_getElem?_getD, f_range_get _ (by rw [hN]; exact hk0)]; rfl
        rw [this]
        exact (match f_fk j k with
          | 0 => by show Value.int 0 = Value.int (M.1 G.1 k); rw [hz.1]
          | 1 => by show Value.long 0 = Value.long (M.2 G.1 k); rw [hz.2.1]
          | t + 2 => by show Value.null = f_cv ad (G.2 G.1 k); rw [hz.2.2]; rfl))
      have hP1 : f_P D cA ad lo (G.1 + 1, G.2) M H1 := by
        intro d q1 q2
        have q2 : d < G.1 + 1 := q2
        by_cases hd0 : d = G.1
        · subst hd0
          rw [f_cell_O hj, hadr]
          exact ⟨_, hc, hOB⟩
        · have q3 : d < G.1 := by omega
          rw [f_cell_same (G := G) (G' := (G.1 + 1, G.2)) (M := M) (M' := M) rfl rfl rfl]
          exact (hP d q1 q3).kept (o1 _ (hP d q1 q3).lt)
      have hS1 : va_S (f_A lo hi ad sz) s.heap H1 locs := ⟨Nat.le_trans hS.1 (by omega), fun x g1 g2 => (o1 x (Nat.lt_of_lt_of_le g1 hS.1)).trans (hS.2.1 x g1 g2), hS.2.2⟩
      rw [k1, k2, ← hadr]
      exact hK _ _ _ _ _ hk H1 locs lsA hL (by show hi ≤ G.1 + 1; omega) (by show G.1 + 1 ≤ hi + mc; omega) (by show H1.size = sz + (G.1 + 1 - hi); omega) hP1 hS1
  · exact hk.elim
theorem s_newa (hB : f_B p s m args meth c own y bt maxL ret lo hi mc sz D cA ad) {pc nx kd lim : Nat} (hkd : kd < 3) (hlim : lim = hi + mc) (hac : Cond.arrayClass (f_ft0 kd) ∈ f_GW) (hd : decode bt pc = .ok (.newarray (f_at0 kd), 2)) (hn : pc + 2 = nx) : f_Snd (f_X p l e s m args below meth c maxL lo hi h mc sz D cA ad R) R pc (tr_newa kd lim nx) := by
  intro K hK G ls st M hk H locs lsA hL h1 h2 h3 hP hS
  subst hn
  have hl90 := hB.lim
  unfold tr_newa at hk
  split at hk
  · rename_i n r
    split at hk
    · rename_i j N hj
      cases hb : (Nat.beq j kd && (Nat.blt G.1 lim && Nat.blt N 2000)) with
      | false => simp only [hb, cond_false] at hk
      | true =>
        simp only [hb, cond_true] at hk
        simp only [Bool.and_eq_true] at hb
        have ej := Nat.eq_of_beq_eq_true hb.1
        subst ej
        have hlt : G.1 < lim := Nat.le_of_ble_eq_true hb.2.1
        have hN : N < 2000 := Nat.le_of_ble_eq_true hb.2.2
        obtain ⟨hn, hz, hk⟩ := hk
        subst hn
        have hszc : f_sz G.1 = N := by unfold f_sz; rw [hj]
        have hstep := f_sl_step (hi := hi) h1
        have hmono : f_sl hi (G.1 + 1 - hi) ≤ f_sl hi mc := f_sl_mono hi (by omega)
        have hadr : ad G.1 = H.size := by rw [hB.Ad.1 G.1 h1 (by omega), h3]
        have k1 : G.1 - hi + 1 = G.1 + 1 - hi := by omega
        have k2 : f_sl hi (G.1 - hi) + N = f_sl hi (G.1 + 1 - hi) := by omega
        have hwa : (Cond.arrayClass (newarray.typeOf (f_at0 j))).before args s = true := by
          have := hB.ts hac
          match j, hkd with
          | 0, _ => exact this
          | 1, _ => exact this
          | 2, _ => exact this
        have hcb : componentBytes (newarray.typeOf (f_at0 j)) ≤ 8 := by
          match j, hkd with
          | 0, _ => decide
          | 1, _ => decide
          | 2, _ => decide
        have hmul : N * componentBytes (newarray.typeOf (f_at0 j)) ≤ N * 8 := Nat.mul_le_mul_left N hcb
        refine va_newaK hB.1 hB.2.1 (atype := f_at0 j) hwa (g := F0 m pc lsA (.int (nI N) :: r.map (f_cv ad))) rfl hd rfl (nI_pos (by omega)) (nI_clamp (by omega)) (by omega) (show G.1 - hi + 1 ≤ mc by omega) (show f_sl hi (G.1 - hi) + N ≤ f_sl hi mc by omega) rfl fun H1 cA' e1 z1 o1 hAr hNm => ?_
        have hcA : cA' = cA j := by
          have h5 := hB.K.2
          match j, hkd, hNm with
          | 0, _, hNm => exact Option.some.inj (hNm.symm.trans (h5 0 _ rfl).2)
          | 1, _, hNm => exact Option.some.inj (hNm.symm.trans (h5 1 _ rfl).2)
          | 2, _, hNm => exact Option.some.inj (hNm.symm.trans (h5 2 _ rfl).2)
        subst hcA
        have hP1 : f_P D cA ad lo (G.1 + 1, G.2) M H1 := by
          intro d q1 q2
          have q2 : d < G.1 + 1 := q2
          by_cases hd0 : d = G.1
          · subst hd0
            show va_at D vwCl (ad G.1, f_cell ad cA (G.1 + 1, G.2) M G.1) H1
            match j, hkd, hj, e1 with
            | 0, _, hj, e1 =>
              rw [f_cell_A0 hj, hadr]
              refine e1.trans ?_
              rw [vp_cell_i]
              congr 2
              funext q; rw [hz.1]; rfl
            | 1, _, hj, e1 =>
              rw [f_cell_A1 hj, hadr]
              refine e1.trans ?_
              rw [vp_cell_l]
              congr 2
              funext q; rw [hz.2.1]; rfl
            | 2, _, hj, e1 =>
              rw [f_cell_A2 hj, hadr]
              refine e1.trans ?_
              rw [vp_cell_i]
              congr 2
              funext q; rw [hz.1]; rfl
          · have q3 : d < G.1 := by omega
            rw [f_cell_same (G := G) (G' := (G.1 + 1, G.2)) (M := M) (M' := M) rfl rfl rfl]
            exact (hP d q1 q3).kept (o1 _ (hP d q1 q3).lt)
        have hS1 : va_S (f_A lo hi ad sz) s.heap H1 locs := ⟨Nat.le_trans hS.1 (by omega), fun x g1 g2 => (o1 x (Nat.lt_of_lt_of_le g1 hS.1)).trans (hS.2.1 x g1 g2), hS.2.2⟩
        rw [k1, k2, ← hadr]
        exact hK _ _ _ _ _ hk H1 locs lsA hL (by show hi ≤ G.1 + 1; omega) (by show G.1 + 1 ≤ hi + mc; omega) (by show H1.size = sz + (G.1 + 1 - hi); omega) hP1 hS1
    · exact hk.elim
  · exact hk.elim
theorem s_vretN (hB : f_B p s m args meth c own y bt maxL ret lo hi mc sz D cA ad) {pc lim : Nat} (hlim : lim = hi + mc) (hr0 : ret = none) (hd : decode bt pc = .ok (.return_, 1)) : f_Snd (f_X p l e s m args below meth c maxL lo hi h mc sz D cA ad R) R pc (tr_vretN lim) := by
  intro K hK G ls st M hk H locs lsA hL h1 h2 h3 hP hS
  unfold tr_vretN at hk
  split at hk
  · have hms := f_sl_le hi h1 h2
    obtain ⟨hG, hk⟩ := hk
    refine W.widen (k := mc) (n := f_sl hi mc) (by omega) hms ?_
    exact W.vret hB.1 hB.2.1 (by rw [hB.2.2.2.1]; exact hr0) (fun t ht hW => ⟨G, _, M, rfl, hk, by omega, by rw [ht, h3]; omega, by rw [ht]; exact hP, hS.F ht⟩) hS.2.2 hd hB.2.2.2.2.2.2.1
  · exact hk.elim
/-- a constructor of the own class or of a nest mate -/
theorem s_callN (hB : f_B p s m args meth c own y bt maxL ret lo hi mc sz D cA ad) {pc nx index h' n mc' lim : Nat} {y' : MethodName} {bt' : ByteArray} {maxL' : Nat} {sp : fSp} (hlim : lim = hi + mc) (hT : f_To lo h h' mc' y' bt' maxL' none n sp) (hl : Cond.methodLink own index y' ∈ f_GW ∨ ∃ host, (own, index, y', host) ∈ f_NWm) (hin : Cond.instanceMethod y' ∈ f_GW) (hy1 : y'.name = "<init>") (hd : decode bt pc = .ok (.invokespecial index, 3)) (hn : pc + 3 = nx) : f_Snd (f_X p l e s m args below meth c maxL lo hi h mc sz D cA ad R) R pc (tr_callN (n + 1) maxL' mc' lim sp nx) := by
  intro K hK G ls st M hk H locs lsA hL h1 h2 h3 hP hS
  subst hn
  have hl90 := hB.lim
  have hts := hB.2.2.2.2.2.1
  obtain ⟨hCon, hh, hml, hcode, hini, hdd⟩ := hT
  unfold tr_callN at hk
  split at hk
  · rename_i b As r hp
    cases hc : (Nat.ble (f_cats (.ref b :: As)) maxL' && (Nat.ble (f_cats r) 8 && Nat.ble (G.1 + mc') lim)) with
    | false => simp only [hc, cond_false] at hk
    | true =>
      simp only [hc, cond_true] at hk
      simp only [Bool.and_eq_true] at hc
      have hle : G.1 + mc' ≤ hi + mc := by have := Nat.le_of_ble_eq_true hc.2.2; omega
      obtain ⟨e1, e2⟩ := f_pop_spec (n + 1) st [] (.ref b :: As) r hp
      have e1 : st = As.reverse ++ .ref b :: r := by
        have := e1.symm
        simpa using this
      have hM := hCon l D cA ad (sz + (G.1 - hi)) G (.ref b :: As) M _ hk (Nat.le_of_ble_eq_true hc.1) (Nat.le_trans hB.hlo h1) (by omega) (hB.Ad.grow hB.hlo h1 (by omega))
      have hroom : ((r.map (f_cv ad)).map fun v => v.category).sum ≤ 8 := by rw [f_cats_sum]; exact Nat.le_of_ble_eq_true hc.2.1
      have hlen : (As.map (f_cv ad)).length = n := by rw [List.length_map]; simp at e2; omega
      have hstack : st.map (f_cv ad) = (As.map (f_cv ad)).reverse ++ .ref (ad b) :: r.map (f_cv ad) := by rw [e1, List.map_append, List.map_reverse]; rfl
      refine f_back (a := (Value.ref (ad b) :: As.map (f_cv ad)).toArray) (rest := r) hB h1 h3 hle hS hK hL ?_
      rw [hstack]
      rcases hl with hl | ⟨host, hl⟩
      · exact va_runI (As := As.map (f_cv ad)) ⟨hB.1, hB.2.1, hB.2.2.1, hB.hown, hts⟩ hM ⟨callB_of n hts (f_GoodIn hcode) rfl rfl rfl (hB.ts hini) (hB.ts hl) hdd (f_room hh hml), hy1, hB.ts hin⟩ ⟨f_blind, fun U hU hW => f_pre hB h1 h2 h3 hP hS (.ref b :: As) U hU hW⟩ rfl hlen hL.1 rfl (lv_room hroom) hd (f_cells (mc' := mc') h1 hle)
      · exact va_runIN (As := As.map (f_cv ad)) ⟨hB.1, hB.2.1, hB.2.2.1, hB.hown, hts⟩ hM ⟨va_cnB n hts (f_GoodIn hcode) rfl rfl rfl (hB.St.2.1 _ hl) (hB.ts hini) hdd (f_room hh hml), hy1, hB.ts hin⟩ ⟨f_blind, fun U hU hW => f_pre hB h1 h2 h3 hP hS (.ref b :: As) U hU hW⟩ rfl hlen hL.1 rfl (lv_room hroom) hd (f_cells (mc' := mc') h1 hle)
  · exact hk.elim
end FNW
