/-! ===== contracts: Math's two, an index looked at, constructors ===== -/
theorem f_conF {lo h mc : Nat} {own : String} {y : MethodName} {bt : ByteArray} {maxL : Nat} {ret : Option FieldType} {sp : fSp} {code : Nat → fTr} (hy : plainFor y = true) (hcls : y.cls = own) (hcode : ∀ (p : Program) (l : Launch) (e : Env) (s : State) (m : MethodId) (args : Array Value) (below : List Frame) (meth : Method) (c : Code) (hi sz : Nat) (D : va_G) (cA : Nat → ClassId) (ad : Nat → Nat) (R : fR), f_B p s m args meth c own y bt maxL ret lo hi mc sz D cA ad → ∀ pc, f_Snd (f_X p l e s m args below meth c maxL lo hi h mc sz D cA ad R) R pc (code pc))
    (hmeets : f_Meets maxL code sp) : f_Con lo h mc y bt maxL ret sp := by
  intro l D cA ad sz G As M R hsp hw hlo hlim hAd
  refine va_MetF (cc := bt) (maxL := maxL) (ret := ret) hy rfl ?_
  intro p e s m args below meth c s₁ B hml hv
  obtain ⟨rfl, hsz, hP, hK, hSt⟩ := hv
  have hown : s.vm.findClass own = some m.cls := by rw [← hcls]; exact findClass_of_methodNamed B.named
  have hB : f_B p s m (As.map (f_cv ad)).toArray meth c own y bt maxL ret lo G.1 mc sz D cA ad :=
    ⟨B.exec, B.bytes, hml, B.returns, hown, atoms_spec (ws := f_ws y bt maxL ret) B.pre, B.notSynchronized, (name_of_methodNamed B.named B.method).1, hsz, hK, hSt, hAd, hlo, hlim⟩
  have hX := hmeets G As M R hsp (f_X p l e s m (As.map (f_cv ad)).toArray below meth c maxL lo G.1 h mc sz D cA ad R) (hcode p l e s m _ below meth c G.1 sz D cA ad R hB) (fun G pc ls ls' st M hle hx H locs lsA hL => hx H locs lsA (hL.le hle))
  have hl := f_entry_LH ad As maxL hw
  rw [lg_entry_eq]
  have := hX s.heap [] _ hl (Nat.le_refl _) (by omega) (by omega) hP va_S.rf
  rw [Nat.sub_self] at this
  exact this
/-- a method that makes cells: what it says hangs on how many there were -/
theorem f_conN {lo h mc : Nat} {own : String} {y : MethodName} {bt : ByteArray} {maxL : Nat} {ret : Option FieldType} {sp : fSp} {code : Nat → Nat → fTr} (hy : plainName y.cls = true) (hcls : y.cls = own) (hcode : ∀ (p : Program) (l : Launch) (e : Env) (s : State) (m : MethodId) (args : Array Value) (below : List Frame) (meth : Method) (c : Code) (hi sz : Nat) (D : va_G) (cA : Nat → ClassId) (ad : Nat → Nat) (R : fR), f_B p s m args meth c own y bt maxL ret lo hi mc sz D cA ad → ∀ pc, f_Snd (f_X p l e s m args below meth c maxL lo hi h mc sz D cA ad R) R pc (code hi pc))
    (hmeets : ∀ G As M R, sp G As M R → ∀ X : fK, (∀ pc, f_Snd X R pc (code G.1 pc)) → f_Wk X → X G 0 (f_entry As maxL) [] M) : f_Con lo h mc y bt maxL ret sp := by
  intro l D cA ad sz G As M R hsp hw hlo hlim hAd
  refine Met.ofW (cc := bt) (maxL := maxL) (ret := ret) hy rfl ?_
  intro p e s m args below meth c s₁ B hml hv
  obtain ⟨rfl, hsz, hP, hK, hSt⟩ := hv
  have hown : s.vm.findClass own = some m.cls := by rw [← hcls]; exact findClass_of_methodNamed B.named
  have hB : f_B p s m (As.map (f_cv ad)).toArray meth c own y bt maxL ret lo G.1 mc sz D cA ad :=
    ⟨B.exec, B.bytes, hml, B.returns, hown, atoms_spec (ws := f_ws y bt maxL ret) B.pre, B.notSynchronized, (name_of_methodNamed B.named B.method).1, hsz, hK, hSt, hAd, hlo, hlim⟩
  have hX := hmeets G As M R hsp (f_X p l e s m (As.map (f_cv ad)).toArray below meth c maxL lo G.1 h mc sz D cA ad R) (hcode p l e s m _ below meth c G.1 sz D cA ad R hB) (fun G pc ls ls' st M hle hx H locs lsA hL => hx H locs lsA (hL.le hle))
  have hl := f_entry_LH ad As maxL hw
  rw [lg_entry_eq]
  have := hX s.heap [] _ hl (Nat.le_refl _) (by omega) (by omega) hP va_S.rf
  rw [Nat.sub_self] at this
  exact this
def f_selfN (maxL : Nat) (code : Nat → Nat → fTr) (n : Nat) : fSp := fun G As M R => f_self maxL (code G.1) n G As M R
theorem f_selfN_ok (maxL : Nat) (code : Nat → Nat → fTr) (n : Nat) : ∀ G As M R, f_selfN maxL code n G As M R → ∀ X : fK, (∀ pc, f_Snd X R pc (code G.1 pc)) → f_Wk X → X G 0 (f_entry As maxL) [] M := fun _ _ _ _ hsp _ hX _ => f_run_mono hX n _ _ _ _ _ hsp
/-- what never holds is met by every method -/
def S_nil : fSp := fun _ _ _ _ => False
theorem c_nil {lo h mc : Nat} {y : MethodName} {bt : ByteArray} {maxL : Nat} {ret : Option FieldType} : f_Con lo h mc y bt maxL ret S_nil := fun _ _ _ _ _ _ _ _ _ hsp => hsp.elim
theorem c_any {lo h mc n : Nat} {y : MethodName} {bt : ByteArray} {maxL : Nat} {ret : Option FieldType} {S : Nat → fSp} (hc : ∀ d, d ≤ n → f_Con lo h mc y bt maxL ret (S d)) {sp : fSp} (hs : ∀ G As M R, sp G As M R → ∃ d, d ≤ n ∧ S d G As M R) : f_Con lo h mc y bt maxL ret sp := fun l D cA ad sz G As M R hsp => by
  obtain ⟨d, hd, h⟩ := hs G As M R hsp
  exact hc d hd l D cA ad sz G As M R h
theorem c_J9_max_7cf53_0 : f_Con 0 0 0 yJ9_max_7cf53 cJ9_max_7cf53 2 (some .int) S_max := f_conF (own := RJ9) (by decide +kernel) rfl (fun _ _ _ _ _ _ _ _ _ _ _ _ _ _ _ hB => zJ9_max_7cf53 hB) m_max
theorem c_J9_min_7cf53_0 : f_Con 0 0 0 yJ9_min_7cf53 cJ9_min_7cf53 2 (some .int) S_min := f_conF (own := RJ9) (by decide +kernel) rfl (fun _ _ _ _ _ _ _ _ _ _ _ _ _ _ _ hB => zJ9_min_7cf53 hB) m_min
theorem dJ3_checkIndex_0 : decode cJ3_checkIndex_8e157 0 = .ok (.iload_n 0, 1) := by decide +kernel
theorem dJ3_checkIndex_1 : decode cJ3_checkIndex_8e157 1 = .ok (.ifCond .lt 8, 3) := by decide +kernel
theorem dJ3_checkIndex_4 : decode cJ3_checkIndex_8e157 4 = .ok (.iload_n 0, 1) := by decide +kernel
theorem dJ3_checkIndex_5 : decode cJ3_checkIndex_8e157 5 = .ok (.iload_n 1, 1) := by decide +kernel
theorem dJ3_checkIndex_6 : decode cJ3_checkIndex_8e157 6 = .ok (.if_icmp .lt 10, 3) := by decide +kernel
theorem dJ3_checkIndex_16 : decode cJ3_checkIndex_8e157 16 = .ok (.iload_n 0, 1) := by decide +kernel
theorem dJ3_checkIndex_17 : decode cJ3_checkIndex_8e157 17 = .ok (.ireturn, 1) := by decide +kernel
theorem dJ0_checkIndex_0 : decode cJ0_checkIndex_df160 0 = .ok (.iload_n 0, 1) := by decide +kernel
theorem dJ0_checkIndex_1 : decode cJ0_checkIndex_df160 1 = .ok (.iload_n 1, 1) := by decide +kernel
theorem dJ0_checkIndex_2 : decode cJ0_checkIndex_df160 2 = .ok (.getstatic 1053, 3) := by decide +kernel
theorem dJ0_checkIndex_5 : decode cJ0_checkIndex_df160 5 = .ok (.invokestatic 1059, 3) := by decide +kernel
theorem dJ0_checkIndex_8 : decode cJ0_checkIndex_df160 8 = .ok (.pop, 1) := by decide +kernel
theorem dJ0_checkIndex_9 : decode cJ0_checkIndex_df160 9 = .ok (.return_, 1) := by decide +kernel
theorem c_J3 (l : Launch) (n : Nat) (z w : Int32) (v : Value) (hv : v = .null ∨ ∃ t, v = .ref t) (h0 : ¬ z < 0) (hw : z < w) : Met l yJ3_checkIndex_8e157 (f_ws yJ3_checkIndex_8e157 cJ3_checkIndex_8e157 3 (some .int)) (f_rm 0 0 0) (va_Pc [.int z, .int w, v] (fun U => U.heap.size = n)) (va_Qi (S := Unit) (fun r _ => r = z) (fun _ t => t.heap.size = n) (fun _ => False)) 0 0 (fun _ => False) := by
  refine Met.ofW (cc := cJ3_checkIndex_8e157) (maxL := 3) (ret := some .int) (by decide +kernel) rfl ?_
  intro p e s m args below meth c s₁ B hml hq
  obtain ⟨rfl, hn⟩ := hq
  have hx := B.exec
  have hb := B.bytes
  have hr := B.returns
  have hlocks := B.notSynchronized
  have hS : va_S (fun _ => False) s.heap s.heap [] := va_S.rf
  have hl : lv_has ((lg_sl [.int z, .int w, v] ++ List.replicate (3 - (lg_sl [.int z, .int w, v]).length) Slot.unset).toArray) 3 [(0, .int z), (1, .int w), (2, v)] := by
    rcases hv with rfl | ⟨t, rfl⟩
    · exact lv_entry ([.int z, .int w, .null]) (n := 3) (Nat.le_of_ble_eq_true rfl)
    · exact lv_entry ([.int z, .int w, .ref t]) (n := 3) (Nat.le_of_ble_eq_true rfl)
  rw [lg_entry_eq]
  generalize (lg_sl ([.int z, .int w, v]) ++ List.replicate (3 - (lg_sl ([.int z, .int w, v])).length) Slot.unset).toArray = ls at hl ⊢
  refine lv_iload_n hx hb dJ3_checkIndex_0 rfl (lv_at hl 0 rfl) ?_
  refine lv_if_lt (tgt := 9) hx hb dJ3_checkIndex_1 (by decide) (fun q => absurd q h0) (fun _ => ?_)
  refine lv_iload_n hx hb dJ3_checkIndex_4 rfl (lv_at hl 0 rfl) ?_
  refine lv_iload_n hx hb dJ3_checkIndex_5 rfl (lv_at hl 1 rfl) ?_
  refine lv_icmp_lt (tgt := 16) hx hb dJ3_checkIndex_6 (by decide) (fun _ => ?_) (fun q => absurd hw q)
  refine lv_iload_n hx hb dJ3_checkIndex_16 rfl (lv_at hl 0 rfl) ?_
  exact W.iret (v := z) hx hb hr (fun t ht hW => ⟨⟨z, (), rfl, rfl, by show t.heap.size = n; rw [ht]; exact hn⟩, hS.F ht⟩) hS.2.2 dJ3_checkIndex_17
def tr_cix : fTr := fun _ K G ls st M => match st with
  | [.int w, .int z] => ¬ z < 0 ∧ z < w ∧ K G 8 ls [.int z] M
  | _ => False
def tr_pop1 (nx : Nat) : fTr := fun _ K G ls st M => match st with
  | [.int _] => K G nx ls [] M
  | _ => False
section FCX
variable {p : Program} {l : Launch} {e : Env} {s : State} {m : MethodId} {args : Array Value} {below : List Frame} {meth : Method} {c : Code} {lo hi h mc sz : Nat} {D : va_G} {cA : Nat → ClassId} {ad : Nat → Nat} {R : fR}
theorem s_cix (hB : f_B p s m args meth c RJ0 yJ0_checkIndex_df160 cJ0_checkIndex_df160 2 none lo hi mc sz D cA ad) (hh : 0 + 1 ≤ h) : f_Snd (f_X p l e s m args below meth c 2 lo hi h mc sz D cA ad R) R 2 tr_cix := by
  intro K hK G ls st M hk H locs lsA hL h1 h2 h3 hP hS
  have hlim := hB.lim
  have hts := hB.2.2.2.2.2.1
  unfold tr_cix at hk
  split at hk
  · rename_i w z
    obtain ⟨g0, g1, hk⟩ := hk
    have key : ∀ v : Value, (v = .null ∨ ∃ t, v = .ref t) → va_Z "jdk/internal/util/Preconditions" "SIOOBE_FORMATTER" "Ljava/util/function/BiFunction;" v (f_A lo hi ad sz) s s.heap → W p l e (f_rm h mc (f_sl hi mc)) s m args below meth c H locs (G.1 - hi) (f_sl hi (G.1 - hi)) (MQ below (f_Q D cA ad lo hi sz mc R (f_A lo hi ad sz)) args s mc (f_sl hi mc) (f_A lo hi ad sz)) (F0 m 2 lsA [.int w, .int z]) := by
      intro v hv hZ
      refine va_gets hB.1 hB.2.1 hZ hS hB.hown (hB.ts g_747) (fun _ h => h) dJ0_checkIndex_2 ?_
      refine va_calli (A1 := fun _ => False) (va_runS (As := [.int z, .int w, v]) (rest := []) ⟨hB.1, hB.2.1, hB.2.2.1, hB.hown, hts⟩ (c_J3 l (sz + (G.1 - hi)) z w v hv g0 g1) ⟨callB_of 3 hts (f_GoodIn g_750) rfl rfl rfl (hB.ts g_18) (hB.ts g_748) (by decide +kernel) (f_room (mc' := 0) (ms' := 0) hh (by decide)), hB.ts g_749⟩ ⟨fun a U g mk q => ⟨q.1, q.2⟩, fun U hU hW => ⟨rfl, by show U.heap.size = _; rw [hU]; exact h3⟩⟩ rfl rfl hL.1 rfl (lv_room (Nat.le_of_ble_eq_true rfl)) dJ0_checkIndex_5 (f_cells (mc' := 0) h1 h2)) hS (fun _ _ z => z.elim) (fun _ z => z.elim) (fun r u t H1 locs1 ht hvm hr hz hz1 hk1 hS1 => ?_)
      have hr : r = z := hr
      subst hr
      refine hK _ _ _ _ _ hk H1 locs1 lsA hL h1 h2 (by rw [← ht]; exact hz) ?_ hS1
      intro d q1 q2
      exact (hP d q1 q2).kept (hk1 _ (hP d q1 q2).lt (fun z => z))
    rcases hB.St.2.2.2.2.1 with hZ | ⟨t, hZ⟩
    · exact key _ (Or.inl rfl) hZ
    · exact key _ (Or.inr ⟨t, rfl⟩) hZ
  · exact hk.elim
theorem s_pop1 (hB : f_B p s m args meth c RJ0 yJ0_checkIndex_df160 cJ0_checkIndex_df160 2 none lo hi mc sz D cA ad) : f_Snd (f_X p l e s m args below meth c 2 lo hi h mc sz D cA ad R) R 8 (tr_pop1 9) := by
  intro K hK G ls st M hk H locs lsA hL h1 h2 h3 hP hS
  unfold tr_pop1 at hk
  split at hk
  · rename_i z
    exact lv_pop hB.1 hB.2.1 (va := .int z) dJ0_checkIndex_8 rfl (hK _ _ _ _ _ hk H locs lsA hL h1 h2 h3 hP hS)
  · exact hk.elim
end FCX
def kJ0_checkIndex_df160 : Nat → fTr := fun pc => bif Nat.ble pc 2 then (bif Nat.ble pc 0 then (bif Nat.beq pc 0 then tr_iload 0 1 else tr_none) else (bif Nat.ble pc 1 then (bif Nat.beq pc 1 then tr_iload 1 2 else tr_none) else (bif Nat.beq pc 2 then tr_cix else tr_none))) else (bif Nat.ble pc 8 then (bif Nat.beq pc 8 then tr_pop1 9 else tr_none) else (bif Nat.beq pc 9 then tr_vret else tr_none))
theorem zJ0_checkIndex_df160 {p : Program} {l : Launch} {e : Env} {s : State} {m : MethodId} {args : Array Value} {below : List Frame} {meth : Method} {c : Code} {hi h sz : Nat} {D : va_G} {cA : Nat → ClassId} {ad : Nat → Nat} {R : fR} (hB : f_B p s m args meth c RJ0 yJ0_checkIndex_df160 cJ0_checkIndex_df160 2 none 100 hi 0 sz D cA ad) (hh : 0 + 1 ≤ h) : ∀ pc, f_Snd (f_X p l e s m args below meth c 2 100 hi h 0 sz D cA ad R) R pc (kJ0_checkIndex_df160 pc) := fun pc => f_nd (f_nd (f_lf (s_iload_n hB dJ0_checkIndex_0 rfl rfl)) (f_nd (f_lf (s_iload_n hB dJ0_checkIndex_1 rfl rfl)) (f_lf (s_cix hB hh)))) (f_nd (f_lf (s_pop1 hB)) (f_lf (s_vret (nx := 0) hB rfl rfl dJ0_checkIndex_9)))
theorem m_cix : f_Meets 2 kJ0_checkIndex_df160 S_cix := by
  intro G As M R hsp X hX hW
  match As, hsp with
  | [.int z, .int w], ⟨k, n, hz, hw, hk, hn, hsp⟩ =>
    subst hz; subst hw
    refine f_run_ok (stop := fun q => false) hX 10 _ _ _ _ _ ?_
    exact And.intro (nI_pos (by omega)) (And.intro (nI_lt hk (by omega)) hsp)
theorem c_J0_checkIndex_df160_0 : f_Con 100 1 0 yJ0_checkIndex_df160 cJ0_checkIndex_df160 2 none S_cix := f_con (own := RJ0) (by decide +kernel) rfl (fun _ _ _ _ _ _ _ _ _ _ _ _ _ _ _ hB => zJ0_checkIndex_df160 hB (by decide)) m_cix
