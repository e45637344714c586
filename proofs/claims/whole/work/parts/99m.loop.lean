/-! ===== the law's loop; what is made ahead of it ===== -/
theorem l_sub5 {L i : Nat} (hL : L ≤ 2560) (hi : i ≤ L) (h : ¬ (Int32.ofNat L - 5 < nI i)) : i + 5 ≤ L := by
  by_cases h5 : 5 ≤ L
  · obtain ⟨k, rfl⟩ : ∃ k, L = k + 5 := ⟨L - 5, by omega⟩
    have e : Int32.ofNat (k + 5) - 5 = nI k := by
      show nI (k + 5) - nI 5 = nI k
      rw [← nI_add, Int32.add_sub_cancel]
    rw [e] at h
    have : ¬ k < i := fun z => h (nI_lt z (by omega))
    omega
  · refine absurd ?_ h
    have h0 : (0 : Int32) ≤ nI i := nI_pos' (by omega)
    have h1 : Int32.ofNat L - 5 < 0 := by
      have : L = 0 ∨ L = 1 ∨ L = 2 ∨ L = 3 ∨ L = 4 := by omega
      rcases this with rfl | rfl | rfl | rfl | rfl <;> decide
    rw [Int32.lt_iff_toInt_lt] at h1 ⊢
    rw [Int32.le_iff_toInt_le] at h0
    omega
section LWM
variable {p : Program} {l : Launch} {e : Env} {s : State} {m : MethodId} {below : List Frame} {meth : Method} {c : Code} {b L : Nat} {xs : Nat → Int32} {D : va_G} {cA : Nat → ClassId} {ad0 : Nat → Nat} {cells slots : Nat}
set_option maxHeartbeats 2000000 in
theorem l_lawloop (F : l_Fx p s m meth c b L xs D cA ad0) (hL : L ≤ 2560) (hcs : cells ≤ 600000 ∧ slots ≤ 7302250) : ∀ (n i : Nat) (st : fSt) (Mx Mm : fMem) (H : Heap) (locs : List Loc) (ls : Array Slot), i ≤ L → L + 1 ≤ i + n → l_In D cA ad0 s.heap.size st Mx Mm H → va_S (fun q => s.heap.size ≤ q) s.heap H locs → lv_has ls 4 [(3, .int (nI i)), (2, .ref (l_aM ad0 s.heap.size 100)), (1, .ref (l_aX ad0 s.heap.size 0)), (0, .ref b)] → W p l e room_1 s m #[Value.ref b] below meth c H locs cells slots (lw_Z below #[Value.ref b] s) (F0 m 18 ls []) := by
  obtain ⟨hx, hb, hr, hml, hown, hts, hX, hbl, hlocks, hgv⟩ := id F.1
  have hbA : ¬ (fun q : Nat => s.heap.size ≤ q) b := Nat.not_le.mpr hbl
  intro n
  induction n with
  | zero => exact fun i st Mx Mm H locs ls h1 h2 => absurd h2 (by omega)
  | succ n ih =>
    intro i st Mx Mm H locs ls h1 h2 hIn hS hl
    refine lv_iload_n hx hb d_law_18 rfl (lv_at hl 0 rfl) ?_
    refine lv_aload_n hx hb d_law_19 rfl (lv_at hl 3 rfl) ?_
    refine va_slen hx hb hX hbl hbA hS d_law_20 ?_
    refine lv_iconst (v := 5) hx hb d_law_21 (by decide) ?_
    refine lv_isub hx hb d_law_22 ?_
    refine lv_icmp_gt (tgt := 1172) hx hb d_law_23 (by decide) (fun _ => ?_) (fun q => ?_)
    · refine lv_iconst (v := 1) hx hb d_law_1172 (by decide) ?_
      refine va_forget (fun q hq => hS.2.2 q hq) ?_
      refine W.widen (k := 600000) (n := 7302250) hcs.1 hcs.2 ?_
      exact lw_ret hx hb hr hlocks d_law_1173
    · have hi : i + 5 ≤ L := l_sub5 hL h1 q
      have T : ∀ (st' : fSt) (Mx' Mm' : fMem) (H' : Heap) (locs' : List Loc), l_In D cA ad0 s.heap.size st' Mx' Mm' H' → va_S (fun q => s.heap.size ≤ q) s.heap H' locs' → W p l e room_1 s m #[Value.ref b] below meth c H' locs' cells slots (lw_Z below #[Value.ref b] s) (F0 m 1166 ls []) := by
        intro st' Mx' Mm' H' locs' hIn' hS'
        refine lv_iinc (v := nI (i + 5)) (lv' := [(3, .int (nI (i + 5))), (2, .ref (l_aM ad0 s.heap.size 100)), (1, .ref (l_aX ad0 s.heap.size 0)), (0, .ref b)]) hx hb d_law_1166 hl (k := 0) rfl (nI_add i 5) (by decide) rfl (fun ls hl => ?_)
        refine lv_goto (tgt := 18) hx hb d_law_1169 (by decide) ?_
        exact ih (i + 5) st' Mx' Mm' H' locs' ls hi (by omega) hIn' hS' hl
      refine lv_aload_n hx hb d_law_26 rfl (lv_at hl 3 rfl) ?_
      refine lv_iload_n hx hb d_law_27 rfl (lv_at hl 0 rfl) ?_
      refine va_sld hx hb hX hbl hbA hS (vp_in_nI (by omega) (by omega)) d_law_28 ?_
      refine lv_bipush (v := 63) hx hb d_law_29 (by decide) ?_
      refine lv_iand hx hb d_law_31 ?_
      refine lv_topi (fun x _ => ?_)
      by_cases hr0 : 0 ≤ x.toInt ∧ x.toInt ≤ 34
      · obtain ⟨k, hk⟩ : ∃ k : Nat, x.toInt = k := ⟨x.toInt.toNat, by omega⟩
        have hk35 : k < 35 := by omega
        have ho : ∀ off : Int, (#[156, 179, 192, 225, 258, 301, 324, 347, 380, 393, 416, 470, 514, 548, 582, 636, 659, 672, 696, 719, 742, 775, 798, 821, 855, 878, 891, 904, 973, 986, 1029, 1052, 1085, 1098, 1111] : Array Int)[k]? = some off → (#[156, 179, 192, 225, 258, 301, 324, 347, 380, 393, 416, 470, 514, 548, 582, 636, 659, 672, 696, 719, 742, 775, 798, 821, 855, 878, 891, 904, 973, 986, 1029, 1052, 1085, 1098, 1111] : Array Int)[(x.toInt - 0).toNat]? = some off := fun _ h => by
          rw [hk, Int.sub_zero, Int.toNat_natCast]
          exact h
        match k, hk35, ho with
        | 0, _, ho => exact lv_tableIn (tgt := 188) hx hb d_law_32 (by omega) (by omega) (ho _ rfl) (by decide) (l_case_0 F hIn hS hi hL hl hcs T)
        | 1, _, ho => exact lv_tableIn (tgt := 211) hx hb d_law_32 (by omega) (by omega) (ho _ rfl) (by decide) (l_case_1 F hIn hS hi hL hl hcs T)
        | 2, _, ho => exact lv_tableIn (tgt := 224) hx hb d_law_32 (by omega) (by omega) (ho _ rfl) (by decide) (l_case_2 F hIn hS hi hL hl hcs T)
        | 3, _, ho => exact lv_tableIn (tgt := 257) hx hb d_law_32 (by omega) (by omega) (ho _ rfl) (by decide) (l_case_3 F hIn hS hi hL hl hcs T)
        | 4, _, ho => exact lv_tableIn (tgt := 290) hx hb d_law_32 (by omega) (by omega) (ho _ rfl) (by decide) (l_case_4 F hIn hS hi hL hl hcs T)
        | 5, _, ho => exact lv_tableIn (tgt := 333) hx hb d_law_32 (by omega) (by omega) (ho _ rfl) (by decide) (l_case_5 F hIn hS hi hL hl hcs T)
        | 6, _, ho => exact lv_tableIn (tgt := 356) hx hb d_law_32 (by omega) (by omega) (ho _ rfl) (by decide) (l_case_6 F hIn hS hi hL hl hcs T)
        | 7, _, ho => exact lv_tableIn (tgt := 379) hx hb d_law_32 (by omega) (by omega) (ho _ rfl) (by decide) (l_case_7 F hIn hS hi hL hl hcs T)
        | 8, _, ho => exact lv_tableIn (tgt := 412) hx hb d_law_32 (by omega) (by omega) (ho _ rfl) (by decide) (l_case_8 F hIn hS hi hL hl hcs T)
        | 9, _, ho => exact lv_tableIn (tgt := 425) hx hb d_law_32 (by omega) (by omega) (ho _ rfl) (by decide) (l_case_9 F hIn hS hi hL hl hcs T)
        | 10, _, ho => exact lv_tableIn (tgt := 448) hx hb d_law_32 (by omega) (by omega) (ho _ rfl) (by decide) (l_case_10 F hIn hS hi hL hl hcs T)
        | 11, _, ho => exact lv_tableIn (tgt := 502) hx hb d_law_32 (by omega) (by omega) (ho _ rfl) (by decide) (l_case_11 F hIn hS hi hL hl hcs T)
        | 12, _, ho => exact lv_tableIn (tgt := 546) hx hb d_law_32 (by omega) (by omega) (ho _ rfl) (by decide) (l_case_12 F hIn hS hi hL hl hcs T)
        | 13, _, ho => exact lv_tableIn (tgt := 580) hx hb d_law_32 (by omega) (by omega) (ho _ rfl) (by decide) (l_case_13 F hIn hS hi hL hl hcs T)
        | 14, _, ho => exact lv_tableIn (tgt := 614) hx hb d_law_32 (by omega) (by omega) (ho _ rfl) (by decide) (l_case_14 F hIn hS hi hL hl hcs T)
        | 15, _, ho => exact lv_tableIn (tgt := 668) hx hb d_law_32 (by omega) (by omega) (ho _ rfl) (by decide) (l_case_15 F hIn hS hi hL hl hcs T)
        | 16, _, ho => exact lv_tableIn (tgt := 691) hx hb d_law_32 (by omega) (by omega) (ho _ rfl) (by decide) (l_case_16 F hIn hS hi hL hl hcs T)
        | 17, _, ho => exact lv_tableIn (tgt := 704) hx hb d_law_32 (by omega) (by omega) (ho _ rfl) (by decide) (l_case_17 F hIn hS hi hL hl hcs T)
        | 18, _, ho => exact lv_tableIn (tgt := 728) hx hb d_law_32 (by omega) (by omega) (ho _ rfl) (by decide) (l_case_18 F hIn hS hi hL hl hcs T)
        | 19, _, ho => exact lv_tableIn (tgt := 751) hx hb d_law_32 (by omega) (by omega) (ho _ rfl) (by decide) (l_case_19 F hIn hS hi hL hl hcs T)
        | 20, _, ho => exact lv_tableIn (tgt := 774) hx hb d_law_32 (by omega) (by omega) (ho _ rfl) (by decide) (l_case_20 F hIn hS hi hL hl hcs T)
        | 21, _, ho => exact lv_tableIn (tgt := 807) hx hb d_law_32 (by omega) (by omega) (ho _ rfl) (by decide) (l_case_21 F hIn hS hi hL hl hcs T)
        | 22, _, ho => exact lv_tableIn (tgt := 830) hx hb d_law_32 (by omega) (by omega) (ho _ rfl) (by decide) (l_case_22 F hIn hS hi hL hl hcs T)
        | 23, _, ho => exact lv_tableIn (tgt := 853) hx hb d_law_32 (by omega) (by omega) (ho _ rfl) (by decide) (l_case_23 F hIn hS hi hL hl hcs T)
        | 24, _, ho => exact lv_tableIn (tgt := 887) hx hb d_law_32 (by omega) (by omega) (ho _ rfl) (by decide) (l_case_24 F hIn hS hi hL hl hcs T)
        | 25, _, ho => exact lv_tableIn (tgt := 910) hx hb d_law_32 (by omega) (by omega) (ho _ rfl) (by decide) (l_case_25 F hIn hS hi hL hl hcs T)
        | 26, _, ho => exact lv_tableIn (tgt := 923) hx hb d_law_32 (by omega) (by omega) (ho _ rfl) (by decide) (l_case_26 F hIn hS hi hL hl hcs T)
        | 27, _, ho => exact lv_tableIn (tgt := 936) hx hb d_law_32 (by omega) (by omega) (ho _ rfl) (by decide) (l_case_27 F hIn hS hi hL hl hcs T)
        | 28, _, ho => exact lv_tableIn (tgt := 1005) hx hb d_law_32 (by omega) (by omega) (ho _ rfl) (by decide) (l_case_28 F hIn hS hi hL hl hcs T)
        | 29, _, ho => exact lv_tableIn (tgt := 1018) hx hb d_law_32 (by omega) (by omega) (ho _ rfl) (by decide) (l_case_29 F hIn hS hi hL hl hcs T)
        | 30, _, ho => exact lv_tableIn (tgt := 1061) hx hb d_law_32 (by omega) (by omega) (ho _ rfl) (by decide) (l_case_30 F hIn hS hi hL hl hcs T)
        | 31, _, ho => exact lv_tableIn (tgt := 1084) hx hb d_law_32 (by omega) (by omega) (ho _ rfl) (by decide) (l_case_31 F hIn hS hi hL hl hcs T)
        | 32, _, ho => exact lv_tableIn (tgt := 1117) hx hb d_law_32 (by omega) (by omega) (ho _ rfl) (by decide) (l_case_32 F hIn hS hi hL hl hcs T)
        | 33, _, ho => exact lv_tableIn (tgt := 1130) hx hb d_law_32 (by omega) (by omega) (ho _ rfl) (by decide) (l_case_33 F hIn hS hi hL hl hcs T)
        | 34, _, ho => exact lv_tableIn (tgt := 1143) hx hb d_law_32 (by omega) (by omega) (ho _ rfl) (by decide) (l_case_34 F hIn hS hi hL hl hcs T)
        | k + 35, h35, _ => exact absurd h35 (by omega)
      · refine lv_tableOut (tgt := 1166) hx hb d_law_32 (by omega) (by decide) ?_
        exact T _ _ _ _ _ hIn hS

/-- an object is made in the law -/
theorem l_new (F : l_Fx p s m meth c b L xs D cA ad0) {ci N lo idx pc : Nat} {C : String} {T : u_T} {ty : Nat → FieldType} (hC : f_CL ci C T N ty) (hdv : ∀ j, j < N → defaultValue (ty j) = f_dv (f_fk ci j)) (hsh : f_sh lo = .inr (.inl ci)) (hcl : Cond.classLink R_law idx C ∈ lw_tbl) (hins : Cond.instantiable C N ∈ lw_tbl) (hini : Cond.initialized C ∈ lw_tbl) (hd : decode code pc = .ok (.new idx, 3)) {H : Heap} {locs : List Loc} {Q : State → Prop} {ls : Array Slot} {st : List Value} (hS : va_S (fun q => s.heap.size ≤ q) s.heap H locs) (hcs : cells + 1 ≤ 600000 ∧ slots + N ≤ 7302250) {ad : Nat → Nat} (hadr : ad lo = H.size)
    (kk : ∀ H1 : Heap, f_P D cA ad lo (lo + 1, f_N0) f_M0 H1 → H1.size = H.size + 1 → (∀ q, q < H.size → H1[q]? = H[q]?) → va_S (fun q => s.heap.size ≤ q) s.heap H1 locs → W p l e room_1 s m #[Value.ref b] below meth c H1 locs (cells + 1) (slots + N) Q (F0 m (pc + 3) ls (.ref (ad lo) :: st))) : W p l e room_1 s m #[Value.ref b] below meth c H locs cells slots Q (F0 m pc ls st) := by
  obtain ⟨⟨hx, hb, hr, hml, hown, hts, hX, hbl, hlocks, hgv⟩, hK, hSt⟩ := F
  obtain ⟨hc, hN, hin0, hty, hnm⟩ := hC
  have hKn := hK.1 ci _ hc
  have ht : ∀ w ∈ f_GW, w.before #[Value.ref b] s = true := fun w hw => hts w (f_GW_in hw)
  refine W.newcK hx hb hown (hts _ hcl) (hts _ hins) (hts _ hini) rfl hd hcs.1 hcs.2 hKn.2.1 rfl fun H1 kC hkC e1 z1 o1 => ?_
  have hOB := (u_born ty ht hin0 hKn hkC e1 hty).to (V' := vp_V ((List.range (f_nf ci)).map (fun k => f_fv ad (lo + 1, f_N0) f_M0 lo k (f_fk ci k)))) (fun k hk0 => by
    rw [hdv k hk0]
    have : vp_V ((List.range (f_nf ci)).map (fun k => f_fv ad (lo + 1, f_N0) f_M0 lo k (f_fk ci k))) k = f_fv ad (lo + 1, f_N0) f_M0 lo k (f_fk ci k) := by
      unfold vp_V; rw [List.getD_eq_getElem?_getD, f_range_get _ (by rw [hN]; exact hk0)]; rfl
    rw [this]
    exact (match f_fk ci k with
      | 0 => rfl
      | 1 => rfl
      | t + 2 => rfl))
  have hP1 : f_P D cA ad lo (lo + 1, f_N0) f_M0 H1 := by
    intro d q1 q2
    have q2 : d < lo + 1 := q2
    have hd0 : d = lo := by omega
    subst hd0
    rw [f_cell_O hsh, hadr]
    exact ⟨_, hc, hOB⟩
  have hS1 : va_S (fun q => s.heap.size ≤ q) s.heap H1 locs := ⟨Nat.le_trans hS.1 (by omega), fun x g1 g2 => (o1 x (Nat.lt_of_lt_of_le g1 hS.1)).trans (hS.2.1 x g1 g2), hS.2.2⟩
  have := kk H1 hP1 z1 o1 hS1
  rw [hadr] at this
  exact this
/-- its constructor -/
theorem l_init (F : l_Fx p s m meth c b L xs D cA ad0) {lo mc h idx pc : Nat} {y : MethodName} {bt : ByteArray} {maxL : Nat} {sp : fSp} {ad : Nat → Nat} (hCon : f_Con lo h mc y bt maxL none sp) (hh : h ≤ 100) (hmc : 1 + mc ≤ 90) (w1 : maxL ≤ 45 ∧ 1 ≤ maxL) (w2 : Cond.code y bt maxL none ∈ f_GW) (w3 : Cond.initialized y.cls ∈ f_GW) (w4 : y.cls ≠ "java/lang/invoke/MethodHandle" ∧ y.cls ≠ "java/lang/invoke/VarHandle" ∧ (parseMethodDescriptor y.desc).map (fun d => d.parameters.length) = some 0) (w5 : Cond.instanceMethod y ∈ f_GW) (w6 : y.name = "<init>") (w7 : Cond.methodLink R_law idx y ∈ lw_tbl)
    {H : Heap} {locs : List Loc} {Q : State → Prop} {ls : Array Slot} {rest : List Value} (hAd : f_Ad lo (lo + 1) H.size ad) (had : ∀ c, 1000 ≤ c → ad c = ad0 c) (hA : ∀ q, f_A lo (lo + 1) ad H.size q → s.heap.size ≤ q) {Rel : fG → Option Value → fMem → Prop} (hsp : sp (lo + 1, f_N0) [.ref lo] f_M0 Rel) (hdg : decode code pc = .ok (.invokespecial idx, 3)) (hls : ls.size = 4) (hrest : (rest.map fun v => v.category).sum ≤ 8) (hP : f_P D cA ad lo (lo + 1, f_N0) f_M0 H) (hS : va_S (fun q => s.heap.size ≤ q) s.heap H locs) (hcs : cells + mc ≤ 600000 ∧ slots + f_sl (lo + 1) mc ≤ 7302250)
    (kk : ∀ (G' : fG) (v : Option Value) (M' : fMem) (H1 : Heap) (locs1 : List Loc), Rel G' v M' → G'.1 = lo + 1 + mc → H1.size = H.size + mc → f_P D cA ad lo G' M' H1 → (∀ q : Nat, q < H.size → ¬ f_A lo (lo + 1) ad H.size q → H1[q]? = H[q]?) → va_S (fun q => s.heap.size ≤ q) s.heap H1 locs1 → W p l e room_1 s m #[Value.ref b] below meth c H1 locs1 (cells + mc) (slots + f_sl (lo + 1) mc) Q (F0 m (pc + 3) ls ((v.map (f_cv ad)).toList ++ rest))) : W p l e room_1 s m #[Value.ref b] below meth c H locs cells slots Q (F0 m pc ls (.ref (ad lo) :: rest)) := by
  obtain ⟨⟨hx, hb, hr, hml, hown, hts, hX, hbl, hlocks, hgv⟩, hK, hSt⟩ := F
  have hM := hCon l D cA ad H.size (lo + 1, f_N0) [.ref lo] f_M0 Rel hsp w1.2 (by show lo ≤ lo + 1; omega) (by show lo + 1 + mc ≤ lo + 90; omega) hAd
  refine l_cont (hi' := lo + 1) (mc' := mc) (ms' := f_sl (lo + 1) mc) (va_runI (As := []) (rest := rest) ⟨hx, hb, hml, hown, hts⟩ hM ⟨callB_of 0 hts (l_GoodIn w2) rfl rfl rfl (hts _ (f_GW_in w3)) (hts _ w7) w4 ⟨by show h + 1 ≤ 2048; omega, by show 8 + (maxL + 11) + 64 * h ≤ 84000; omega⟩, w6, hts _ (f_GW_in w5)⟩ ⟨f_blind, fun U hU hW => ⟨rfl, by rw [hU], by rw [hU]; exact hP, va_K.moved hW.alike hK, ?_⟩⟩ rfl rfl hls rfl (lv_room hrest) hdg ⟨hcs.1, hcs.2⟩) hS hA kk
  rw [hU]
  exact f_St.warm hW hS.2.1 hA (hSt.ad had)
end LWM
