/-! ===== the law: its 35 cases ===== -/
theorem l_cmp_self (x : Int64) : lg_cmp x x = 0 := by
  unfold lg_cmp
  simp
section LWL
variable {p : Program} {l : Launch} {e : Env} {s : State} {m : MethodId} {below : List Frame} {meth : Method} {c : Code} {b L : Nat} {xs : Nat → Int32} {D : va_G} {cA : Nat → ClassId} {ad0 : Nat → Nat} {st : fSt} {Mx Mm : fMem} {H : Heap} {locs : List Loc} {i : Nat} {ls : Array Slot} {cells slots : Nat} {Q : State → Prop}
theorem l_case_0 (F : l_Fx p s m meth c b L xs D cA ad0) (hIn : l_In D cA ad0 s.heap.size st Mx Mm H) (hS : va_S (fun q => s.heap.size ≤ q) s.heap H locs) (hi : i + 5 ≤ L) (hL : L ≤ 2560) (hl : lv_has ls 4 [(3, .int (nI i)), (2, .ref (l_aM ad0 s.heap.size 100)), (1, .ref (l_aX ad0 s.heap.size 0)), (0, .ref b)]) (hcs : cells ≤ 600000 ∧ slots ≤ 7302250) (T : ∀ (st' : fSt) (Mx' Mm' : fMem) (H' : Heap) (locs' : List Loc), l_In D cA ad0 s.heap.size st' Mx' Mm' H' → va_S (fun q => s.heap.size ≤ q) s.heap H' locs' → W p l e room_1 s m #[Value.ref b] below meth c H' locs' cells slots Q (F0 m 1166 ls [])) : W p l e room_1 s m #[Value.ref b] below meth c H locs cells slots Q (F0 m 188 ls []) := by
  obtain ⟨hx, hb, hr, hml, hown, hts, hX, hbl, hlocks, hgv⟩ := id F.1
  obtain ⟨hSW, hRX, hRM, hz, hPx, hPm⟩ := hIn
  obtain ⟨z, hz1⟩ := t_feed st (xs (i + 1))
  refine lv_aload_n hx hb d_law_188 rfl (lv_at hl 2 rfl) ?_
  refine l_arg F hS (j := 1) (by decide) (by omega) hL hl ⟨d_law_189, d_law_190, d_law_191, d_law_192, d_law_193⟩ ?_
  refine l_cX F (nA := 1) c_X11_feed_0 (by decide) ⟨by decide, g_268, g_1, by decide +kernel, g_266, g_267, (List.mem_append_right _ (List.mem_of_getElem? (i := 425) (by decide +kernel)))⟩ (vs := [xs (i + 1)]) rfl (by decide) (r := .int z) (st' := (p_feed st (xs (i + 1))).2) (fun _ => rfl) (fun R hR => ⟨st, rfl, hSW, hRX, fun M' h' => by rw [hz1]; exact hR M' h'⟩) (rest := []) d_law_194 hl.1 (by decide) hPx hPm hz hS hcs (fun Mx1 H1 locs1 hRX1 hPx1 hPm1 hz2 hS1 => ?_)
  refine lv_aload_n hx hb d_law_197 rfl (lv_at hl 1 rfl) ?_
  refine l_arg F hS1 (j := 1) (by decide) (by omega) hL hl ⟨d_law_198, d_law_199, d_law_200, d_law_201, d_law_202⟩ ?_
  refine l_cM F (nA := 1) c_X12_feed_0 (by decide) ⟨by decide, g_704, g_14, by decide +kernel, g_702, g_703, (List.mem_append_right _ (List.mem_of_getElem? (i := 1025) (by decide +kernel)))⟩ (vs := [xs (i + 1)]) rfl (by decide) (r := .int z) (st' := (p_feed st (xs (i + 1))).2) (fun _ => rfl) (fun R hR => ⟨st, rfl, hSW, hRM, fun M' h' => by rw [hz1]; exact hR M' h'⟩) (rest := [.int z]) d_law_203 hl.1 (by exact Nat.le_of_ble_eq_true rfl) hPx1 hPm1 hz2 hS1 hcs (fun Mm1 H2 locs2 hRM1 hPx2 hPm2 hz3 hS2 => ?_)
  refine lv_icmp_eq (tgt := 1166) hx hb d_law_206 (by decide) (fun _ => ?_) (fun q => absurd rfl q)
  exact T _ _ _ _ _ ⟨k_feed hSW, hRX1, hRM1, hz3, hPx2, hPm2⟩ hS2
theorem l_case_1 (F : l_Fx p s m meth c b L xs D cA ad0) (hIn : l_In D cA ad0 s.heap.size st Mx Mm H) (hS : va_S (fun q => s.heap.size ≤ q) s.heap H locs) (hi : i + 5 ≤ L) (hL : L ≤ 2560) (hl : lv_has ls 4 [(3, .int (nI i)), (2, .ref (l_aM ad0 s.heap.size 100)), (1, .ref (l_aX ad0 s.heap.size 0)), (0, .ref b)]) (hcs : cells ≤ 600000 ∧ slots ≤ 7302250) (T : ∀ (st' : fSt) (Mx' Mm' : fMem) (H' : Heap) (locs' : List Loc), l_In D cA ad0 s.heap.size st' Mx' Mm' H' → va_S (fun q => s.heap.size ≤ q) s.heap H' locs' → W p l e room_1 s m #[Value.ref b] below meth c H' locs' cells slots Q (F0 m 1166 ls [])) : W p l e room_1 s m #[Value.ref b] below meth c H locs cells slots Q (F0 m 211 ls []) := by
  obtain ⟨hx, hb, hr, hml, hown, hts, hX, hbl, hlocks, hgv⟩ := id F.1
  obtain ⟨hSW, hRX, hRM, hz, hPx, hPm⟩ := hIn
  obtain ⟨z, hz1⟩ := t_yard st 
  refine lv_aload_n hx hb d_law_211 rfl (lv_at hl 2 rfl) ?_
  refine l_cX F (nA := 0) c_X11_yard_0 (by decide) ⟨by decide, g_273, g_1, by decide +kernel, g_271, g_272, (List.mem_append_right _ (List.mem_of_getElem? (i := 430) (by decide +kernel)))⟩ (vs := []) rfl (by decide) (r := .int z) (st' := (p_yard st ).2) (fun _ => rfl) (fun R hR => ⟨st, rfl, hSW, hRX, fun M' h' => by rw [hz1]; exact hR M' h'⟩) (rest := []) d_law_212 hl.1 (by decide) hPx hPm hz hS hcs (fun Mx1 H1 locs1 hRX1 hPx1 hPm1 hz2 hS1 => ?_)
  refine lv_aload_n hx hb d_law_215 rfl (lv_at hl 1 rfl) ?_
  refine l_cM F (nA := 0) c_X12_yard_0 (by decide) ⟨by decide, g_711, g_14, by decide +kernel, g_709, g_710, (List.mem_append_right _ (List.mem_of_getElem? (i := 1032) (by decide +kernel)))⟩ (vs := []) rfl (by decide) (r := .int z) (st' := (p_yard st ).2) (fun _ => rfl) (fun R hR => ⟨st, rfl, hSW, hRM, fun M' h' => by rw [hz1]; exact hR M' h'⟩) (rest := [.int z]) d_law_216 hl.1 (by exact Nat.le_of_ble_eq_true rfl) hPx1 hPm1 hz2 hS1 hcs (fun Mm1 H2 locs2 hRM1 hPx2 hPm2 hz3 hS2 => ?_)
  refine lv_icmp_eq (tgt := 1166) hx hb d_law_219 (by decide) (fun _ => ?_) (fun q => absurd rfl q)
  exact T _ _ _ _ _ ⟨k_yard hSW, hRX1, hRM1, hz3, hPx2, hPm2⟩ hS2
theorem l_case_2 (F : l_Fx p s m meth c b L xs D cA ad0) (hIn : l_In D cA ad0 s.heap.size st Mx Mm H) (hS : va_S (fun q => s.heap.size ≤ q) s.heap H locs) (hi : i + 5 ≤ L) (hL : L ≤ 2560) (hl : lv_has ls 4 [(3, .int (nI i)), (2, .ref (l_aM ad0 s.heap.size 100)), (1, .ref (l_aX ad0 s.heap.size 0)), (0, .ref b)]) (hcs : cells ≤ 600000 ∧ slots ≤ 7302250) (T : ∀ (st' : fSt) (Mx' Mm' : fMem) (H' : Heap) (locs' : List Loc), l_In D cA ad0 s.heap.size st' Mx' Mm' H' → va_S (fun q => s.heap.size ≤ q) s.heap H' locs' → W p l e room_1 s m #[Value.ref b] below meth c H' locs' cells slots Q (F0 m 1166 ls [])) : W p l e room_1 s m #[Value.ref b] below meth c H locs cells slots Q (F0 m 224 ls []) := by
  obtain ⟨hx, hb, hr, hml, hown, hts, hX, hbl, hlocks, hgv⟩ := id F.1
  obtain ⟨hSW, hRX, hRM, hz, hPx, hPm⟩ := hIn
  obtain ⟨z, hz1⟩ := t_breaker st (xs (i + 1)) (xs (i + 2))
  refine lv_aload_n hx hb d_law_224 rfl (lv_at hl 2 rfl) ?_
  refine l_arg F hS (j := 1) (by decide) (by omega) hL hl ⟨d_law_225, d_law_226, d_law_227, d_law_228, d_law_229⟩ ?_
  refine l_arg F hS (j := 2) (by decide) (by omega) hL hl ⟨d_law_230, d_law_231, d_law_232, d_law_233, d_law_234⟩ ?_
  refine l_cX F (nA := 2) c_X11_breaker_0 (by decide) ⟨by decide, g_325, g_1, by decide +kernel, g_323, g_324, (List.mem_append_right _ (List.mem_of_getElem? (i := 504) (by decide +kernel)))⟩ (vs := [xs (i + 1), xs (i + 2)]) rfl (by decide) (r := .int z) (st' := (p_breaker st (xs (i + 1)) (xs (i + 2))).2) (fun _ => rfl) (fun R hR => ⟨st, rfl, hSW, hRX, fun M' h' => by rw [hz1]; exact hR M' h'⟩) (rest := []) d_law_235 hl.1 (by decide) hPx hPm hz hS hcs (fun Mx1 H1 locs1 hRX1 hPx1 hPm1 hz2 hS1 => ?_)
  refine lv_aload_n hx hb d_law_238 rfl (lv_at hl 1 rfl) ?_
  refine l_arg F hS1 (j := 1) (by decide) (by omega) hL hl ⟨d_law_239, d_law_240, d_law_241, d_law_242, d_law_243⟩ ?_
  refine l_arg F hS1 (j := 2) (by decide) (by omega) hL hl ⟨d_law_244, d_law_245, d_law_246, d_law_247, d_law_248⟩ ?_
  refine l_cM F (nA := 2) c_X12_breaker_0 (by decide) ⟨by decide, g_794, g_14, by decide +kernel, g_792, g_793, (List.mem_append_right _ (List.mem_of_getElem? (i := 1139) (by decide +kernel)))⟩ (vs := [xs (i + 1), xs (i + 2)]) rfl (by decide) (r := .int z) (st' := (p_breaker st (xs (i + 1)) (xs (i + 2))).2) (fun _ => rfl) (fun R hR => ⟨st, rfl, hSW, hRM, fun M' h' => by rw [hz1]; exact hR M' h'⟩) (rest := [.int z]) d_law_249 hl.1 (by exact Nat.le_of_ble_eq_true rfl) hPx1 hPm1 hz2 hS1 hcs (fun Mm1 H2 locs2 hRM1 hPx2 hPm2 hz3 hS2 => ?_)
  refine lv_icmp_eq (tgt := 1166) hx hb d_law_252 (by decide) (fun _ => ?_) (fun q => absurd rfl q)
  exact T _ _ _ _ _ ⟨k_breaker hSW, hRX1, hRM1, hz3, hPx2, hPm2⟩ hS2
theorem l_case_3 (F : l_Fx p s m meth c b L xs D cA ad0) (hIn : l_In D cA ad0 s.heap.size st Mx Mm H) (hS : va_S (fun q => s.heap.size ≤ q) s.heap H locs) (hi : i + 5 ≤ L) (hL : L ≤ 2560) (hl : lv_has ls 4 [(3, .int (nI i)), (2, .ref (l_aM ad0 s.heap.size 100)), (1, .ref (l_aX ad0 s.heap.size 0)), (0, .ref b)]) (hcs : cells ≤ 600000 ∧ slots ≤ 7302250) (T : ∀ (st' : fSt) (Mx' Mm' : fMem) (H' : Heap) (locs' : List Loc), l_In D cA ad0 s.heap.size st' Mx' Mm' H' → va_S (fun q => s.heap.size ≤ q) s.heap H' locs' → W p l e room_1 s m #[Value.ref b] below meth c H' locs' cells slots Q (F0 m 1166 ls [])) : W p l e room_1 s m #[Value.ref b] below meth c H locs cells slots Q (F0 m 257 ls []) := by
  obtain ⟨hx, hb, hr, hml, hown, hts, hX, hbl, hlocks, hgv⟩ := id F.1
  obtain ⟨hSW, hRX, hRM, hz, hPx, hPm⟩ := hIn
  obtain ⟨z, hz1⟩ := t_of st (xs (i + 1)) (xs (i + 2))
  refine lv_aload_n hx hb d_law_257 rfl (lv_at hl 2 rfl) ?_
  refine l_arg F hS (j := 1) (by decide) (by omega) hL hl ⟨d_law_258, d_law_259, d_law_260, d_law_261, d_law_262⟩ ?_
  refine l_arg F hS (j := 2) (by decide) (by omega) hL hl ⟨d_law_263, d_law_264, d_law_265, d_law_266, d_law_267⟩ ?_
  refine l_cX F (nA := 2) c_X11_of_0 (by decide) ⟨by decide, g_329, g_1, by decide +kernel, g_327, g_328, (List.mem_append_right _ (List.mem_of_getElem? (i := 508) (by decide +kernel)))⟩ (vs := [xs (i + 1), xs (i + 2)]) rfl (by decide) (r := .int z) (st' := (p_of st (xs (i + 1)) (xs (i + 2))).2) (fun _ => rfl) (fun R hR => ⟨st, rfl, hSW, hRX, fun M' h' => by rw [hz1]; exact hR M' h'⟩) (rest := []) d_law_268 hl.1 (by decide) hPx hPm hz hS hcs (fun Mx1 H1 locs1 hRX1 hPx1 hPm1 hz2 hS1 => ?_)
  refine lv_aload_n hx hb d_law_271 rfl (lv_at hl 1 rfl) ?_
  refine l_arg F hS1 (j := 1) (by decide) (by omega) hL hl ⟨d_law_272, d_law_273, d_law_274, d_law_275, d_law_276⟩ ?_
  refine l_arg F hS1 (j := 2) (by decide) (by omega) hL hl ⟨d_law_277, d_law_278, d_law_279, d_law_280, d_law_281⟩ ?_
  refine l_cM F (nA := 2) c_X12_of_0 (by decide) ⟨by decide, g_798, g_14, by decide +kernel, g_796, g_797, (List.mem_append_right _ (List.mem_of_getElem? (i := 1143) (by decide +kernel)))⟩ (vs := [xs (i + 1), xs (i + 2)]) rfl (by decide) (r := .int z) (st' := (p_of st (xs (i + 1)) (xs (i + 2))).2) (fun _ => rfl) (fun R hR => ⟨st, rfl, hSW, hRM, fun M' h' => by rw [hz1]; exact hR M' h'⟩) (rest := [.int z]) d_law_282 hl.1 (by exact Nat.le_of_ble_eq_true rfl) hPx1 hPm1 hz2 hS1 hcs (fun Mm1 H2 locs2 hRM1 hPx2 hPm2 hz3 hS2 => ?_)
  refine lv_icmp_eq (tgt := 1166) hx hb d_law_285 (by decide) (fun _ => ?_) (fun q => absurd rfl q)
  exact T _ _ _ _ _ ⟨k_of hSW, hRX1, hRM1, hz3, hPx2, hPm2⟩ hS2
theorem l_case_4 (F : l_Fx p s m meth c b L xs D cA ad0) (hIn : l_In D cA ad0 s.heap.size st Mx Mm H) (hS : va_S (fun q => s.heap.size ≤ q) s.heap H locs) (hi : i + 5 ≤ L) (hL : L ≤ 2560) (hl : lv_has ls 4 [(3, .int (nI i)), (2, .ref (l_aM ad0 s.heap.size 100)), (1, .ref (l_aX ad0 s.heap.size 0)), (0, .ref b)]) (hcs : cells ≤ 600000 ∧ slots ≤ 7302250) (T : ∀ (st' : fSt) (Mx' Mm' : fMem) (H' : Heap) (locs' : List Loc), l_In D cA ad0 s.heap.size st' Mx' Mm' H' → va_S (fun q => s.heap.size ≤ q) s.heap H' locs' → W p l e room_1 s m #[Value.ref b] below meth c H' locs' cells slots Q (F0 m 1166 ls [])) : W p l e room_1 s m #[Value.ref b] below meth c H locs cells slots Q (F0 m 290 ls []) := by
  obtain ⟨hx, hb, hr, hml, hown, hts, hX, hbl, hlocks, hgv⟩ := id F.1
  obtain ⟨hSW, hRX, hRM, hz, hPx, hPm⟩ := hIn
  obtain ⟨z, hz1⟩ := t_row st (xs (i + 1)) (xs (i + 2)) (xs (i + 3))
  refine lv_aload_n hx hb d_law_290 rfl (lv_at hl 2 rfl) ?_
  refine l_arg F hS (j := 1) (by decide) (by omega) hL hl ⟨d_law_291, d_law_292, d_law_293, d_law_294, d_law_295⟩ ?_
  refine l_arg F hS (j := 2) (by decide) (by omega) hL hl ⟨d_law_296, d_law_297, d_law_298, d_law_299, d_law_300⟩ ?_
  refine l_arg F hS (j := 3) (by decide) (by omega) hL hl ⟨d_law_301, d_law_302, d_law_303, d_law_304, d_law_305⟩ ?_
  refine l_cX F (nA := 3) c_X11_row_0 (by decide) ⟨by decide, g_377, g_1, by decide +kernel, g_375, g_376, (List.mem_append_right _ (List.mem_of_getElem? (i := 576) (by decide +kernel)))⟩ (vs := [xs (i + 1), xs (i + 2), xs (i + 3)]) rfl (by decide) (r := .int z) (st' := (p_row st (xs (i + 1)) (xs (i + 2)) (xs (i + 3))).2) (fun _ => rfl) (fun R hR => ⟨st, rfl, hSW, hRX, fun M' h' => by rw [hz1]; exact hR M' h'⟩) (rest := []) d_law_306 hl.1 (by decide) hPx hPm hz hS hcs (fun Mx1 H1 locs1 hRX1 hPx1 hPm1 hz2 hS1 => ?_)
  refine lv_aload_n hx hb d_law_309 rfl (lv_at hl 1 rfl) ?_
  refine l_arg F hS1 (j := 1) (by decide) (by omega) hL hl ⟨d_law_310, d_law_311, d_law_312, d_law_313, d_law_314⟩ ?_
  refine l_arg F hS1 (j := 2) (by decide) (by omega) hL hl ⟨d_law_315, d_law_316, d_law_317, d_law_318, d_law_319⟩ ?_
  refine l_arg F hS1 (j := 3) (by decide) (by omega) hL hl ⟨d_law_320, d_law_321, d_law_322, d_law_323, d_law_324⟩ ?_
  refine l_cM F (nA := 3) c_X12_row_0 (by decide) ⟨by decide, g_847, g_14, by decide +kernel, g_845, g_846, (List.mem_append_right _ (List.mem_of_getElem? (i := 1204) (by decide +kernel)))⟩ (vs := [xs (i + 1), xs (i + 2), xs (i + 3)]) rfl (by decide) (r := .int z) (st' := (p_row st (xs (i + 1)) (xs (i + 2)) (xs (i + 3))).2) (fun _ => rfl) (fun R hR => ⟨st, rfl, hSW, hRM, fun M' h' => by rw [hz1]; exact hR M' h'⟩) (rest := [.int z]) d_law_325 hl.1 (by exact Nat.le_of_ble_eq_true rfl) hPx1 hPm1 hz2 hS1 hcs (fun Mm1 H2 locs2 hRM1 hPx2 hPm2 hz3 hS2 => ?_)
  refine lv_icmp_eq (tgt := 1166) hx hb d_law_328 (by decide) (fun _ => ?_) (fun q => absurd rfl q)
  exact T _ _ _ _ _ ⟨k_row hSW, hRX1, hRM1, hz3, hPx2, hPm2⟩ hS2
theorem l_case_5 (F : l_Fx p s m meth c b L xs D cA ad0) (hIn : l_In D cA ad0 s.heap.size st Mx Mm H) (hS : va_S (fun q => s.heap.size ≤ q) s.heap H locs) (hi : i + 5 ≤ L) (hL : L ≤ 2560) (hl : lv_has ls 4 [(3, .int (nI i)), (2, .ref (l_aM ad0 s.heap.size 100)), (1, .ref (l_aX ad0 s.heap.size 0)), (0, .ref b)]) (hcs : cells ≤ 600000 ∧ slots ≤ 7302250) (T : ∀ (st' : fSt) (Mx' Mm' : fMem) (H' : Heap) (locs' : List Loc), l_In D cA ad0 s.heap.size st' Mx' Mm' H' → va_S (fun q => s.heap.size ≤ q) s.heap H' locs' → W p l e room_1 s m #[Value.ref b] below meth c H' locs' cells slots Q (F0 m 1166 ls [])) : W p l e room_1 s m #[Value.ref b] below meth c H locs cells slots Q (F0 m 333 ls []) := by
  obtain ⟨hx, hb, hr, hml, hown, hts, hX, hbl, hlocks, hgv⟩ := id F.1
  obtain ⟨hSW, hRX, hRM, hz, hPx, hPm⟩ := hIn
  obtain ⟨z, hz1⟩ := t_told st (xs (i + 1))
  refine lv_aload_n hx hb d_law_333 rfl (lv_at hl 2 rfl) ?_
  refine l_arg F hS (j := 1) (by decide) (by omega) hL hl ⟨d_law_334, d_law_335, d_law_336, d_law_337, d_law_338⟩ ?_
  refine l_cX F (nA := 1) c_X11_told_0 (by decide) ⟨by decide, g_381, g_1, by decide +kernel, g_379, g_380, (List.mem_append_right _ (List.mem_of_getElem? (i := 580) (by decide +kernel)))⟩ (vs := [xs (i + 1)]) rfl (by decide) (r := .int z) (st' := (p_told st (xs (i + 1))).2) (fun _ => rfl) (fun R hR => ⟨st, rfl, hSW, hRX, fun M' h' => by rw [hz1]; exact hR M' h'⟩) (rest := []) d_law_339 hl.1 (by decide) hPx hPm hz hS hcs (fun Mx1 H1 locs1 hRX1 hPx1 hPm1 hz2 hS1 => ?_)
  refine lv_aload_n hx hb d_law_342 rfl (lv_at hl 1 rfl) ?_
  refine l_arg F hS1 (j := 1) (by decide) (by omega) hL hl ⟨d_law_343, d_law_344, d_law_345, d_law_346, d_law_347⟩ ?_
  refine l_cM F (nA := 1) c_X12_told_0 (by decide) ⟨by decide, g_851, g_14, by decide +kernel, g_849, g_850, (List.mem_append_right _ (List.mem_of_getElem? (i := 1208) (by decide +kernel)))⟩ (vs := [xs (i + 1)]) rfl (by decide) (r := .int z) (st' := (p_told st (xs (i + 1))).2) (fun _ => rfl) (fun R hR => ⟨st, rfl, hSW, hRM, fun M' h' => by rw [hz1]; exact hR M' h'⟩) (rest := [.int z]) d_law_348 hl.1 (by exact Nat.le_of_ble_eq_true rfl) hPx1 hPm1 hz2 hS1 hcs (fun Mm1 H2 locs2 hRM1 hPx2 hPm2 hz3 hS2 => ?_)
  refine lv_icmp_eq (tgt := 1166) hx hb d_law_351 (by decide) (fun _ => ?_) (fun q => absurd rfl q)
  exact T _ _ _ _ _ ⟨k_told hSW, hRX1, hRM1, hz3, hPx2, hPm2⟩ hS2
theorem l_case_6 (F : l_Fx p s m meth c b L xs D cA ad0) (hIn : l_In D cA ad0 s.heap.size st Mx Mm H) (hS : va_S (fun q => s.heap.size ≤ q) s.heap H locs) (hi : i + 5 ≤ L) (hL : L ≤ 2560) (hl : lv_has ls 4 [(3, .int (nI i)), (2, .ref (l_aM ad0 s.heap.size 100)), (1, .ref (l_aX ad0 s.heap.size 0)), (0, .ref b)]) (hcs : cells ≤ 600000 ∧ slots ≤ 7302250) (T : ∀ (st' : fSt) (Mx' Mm' : fMem) (H' : Heap) (locs' : List Loc), l_In D cA ad0 s.heap.size st' Mx' Mm' H' → va_S (fun q => s.heap.size ≤ q) s.heap H' locs' → W p l e room_1 s m #[Value.ref b] below meth c H' locs' cells slots Q (F0 m 1166 ls [])) : W p l e room_1 s m #[Value.ref b] below meth c H locs cells slots Q (F0 m 356 ls []) := by
  obtain ⟨hx, hb, hr, hml, hown, hts, hX, hbl, hlocks, hgv⟩ := id F.1
  obtain ⟨hSW, hRX, hRM, hz, hPx, hPm⟩ := hIn
  obtain ⟨z, hz1⟩ := t_piece st (xs (i + 1))
  refine lv_aload_n hx hb d_law_356 rfl (lv_at hl 2 rfl) ?_
  refine l_arg F hS (j := 1) (by decide) (by omega) hL hl ⟨d_law_357, d_law_358, d_law_359, d_law_360, d_law_361⟩ ?_
  refine l_cX F (nA := 1) c_X11_piece_0 (by decide) ⟨by decide, g_385, g_1, by decide +kernel, g_383, g_384, (List.mem_append_right _ (List.mem_of_getElem? (i := 584) (by decide +kernel)))⟩ (vs := [xs (i + 1)]) rfl (by decide) (r := .int z) (st' := (p_piece st (xs (i + 1))).2) (fun _ => rfl) (fun R hR => ⟨st, rfl, hSW, hRX, fun M' h' => by rw [hz1]; exact hR M' h'⟩) (rest := []) d_law_362 hl.1 (by decide) hPx hPm hz hS hcs (fun Mx1 H1 locs1 hRX1 hPx1 hPm1 hz2 hS1 => ?_)
  refine lv_aload_n hx hb d_law_365 rfl (lv_at hl 1 rfl) ?_
  refine l_arg F hS1 (j := 1) (by decide) (by omega) hL hl ⟨d_law_366, d_law_367, d_law_368, d_law_369, d_law_370⟩ ?_
  refine l_cM F (nA := 1) c_X12_piece_0 (by decide) ⟨by decide, g_858, g_14, by decide +kernel, g_856, g_857, (List.mem_append_right _ (List.mem_of_getElem? (i := 1216) (by decide +kernel)))⟩ (vs := [xs (i + 1)]) rfl (by decide) (r := .int z) (st' := (p_piece st (xs (i + 1))).2) (fun _ => rfl) (fun R hR => ⟨st, rfl, hSW, hRM, fun M' h' => by rw [hz1]; exact hR M' h'⟩) (rest := [.int z]) d_law_371 hl.1 (by exact Nat.le_of_ble_eq_true rfl) hPx1 hPm1 hz2 hS1 hcs (fun Mm1 H2 locs2 hRM1 hPx2 hPm2 hz3 hS2 => ?_)
  refine lv_icmp_eq (tgt := 1166) hx hb d_law_374 (by decide) (fun _ => ?_) (fun q => absurd rfl q)
  exact T _ _ _ _ _ ⟨k_piece hSW, hRX1, hRM1, hz3, hPx2, hPm2⟩ hS2
theorem l_case_7 (F : l_Fx p s m meth c b L xs D cA ad0) (hIn : l_In D cA ad0 s.heap.size st Mx Mm H) (hS : va_S (fun q => s.heap.size ≤ q) s.heap H locs) (hi : i + 5 ≤ L) (hL : L ≤ 2560) (hl : lv_has ls 4 [(3, .int (nI i)), (2, .ref (l_aM ad0 s.heap.size 100)), (1, .ref (l_aX ad0 s.heap.size 0)), (0, .ref b)]) (hcs : cells ≤ 600000 ∧ slots ≤ 7302250) (T : ∀ (st' : fSt) (Mx' Mm' : fMem) (H' : Heap) (locs' : List Loc), l_In D cA ad0 s.heap.size st' Mx' Mm' H' → va_S (fun q => s.heap.size ≤ q) s.heap H' locs' → W p l e room_1 s m #[Value.ref b] below meth c H' locs' cells slots Q (F0 m 1166 ls [])) : W p l e room_1 s m #[Value.ref b] below meth c H locs cells slots Q (F0 m 379 ls []) := by
  obtain ⟨hx, hb, hr, hml, hown, hts, hX, hbl, hlocks, hgv⟩ := id F.1
  obtain ⟨hSW, hRX, hRM, hz, hPx, hPm⟩ := hIn
  obtain ⟨z, hz1⟩ := t_breaks st (xs (i + 1)) (xs (i + 2))
  refine lv_aload_n hx hb d_law_379 rfl (lv_at hl 2 rfl) ?_
  refine l_arg F hS (j := 1) (by decide) (by omega) hL hl ⟨d_law_380, d_law_381, d_law_382, d_law_383, d_law_384⟩ ?_
  refine l_arg F hS (j := 2) (by decide) (by omega) hL hl ⟨d_law_385, d_law_386, d_law_387, d_law_388, d_law_389⟩ ?_
  refine l_cX F (nA := 2) c_X11_breaks_0 (by decide) ⟨by decide, g_389, g_1, by decide +kernel, g_387, g_388, (List.mem_append_right _ (List.mem_of_getElem? (i := 588) (by decide +kernel)))⟩ (vs := [xs (i + 1), xs (i + 2)]) rfl (by decide) (r := .int z) (st' := (p_breaks st (xs (i + 1)) (xs (i + 2))).2) (fun _ => rfl) (fun R hR => ⟨st, rfl, hSW, hRX, fun M' h' => by rw [hz1]; exact hR M' h'⟩) (rest := []) d_law_390 hl.1 (by decide) hPx hPm hz hS hcs (fun Mx1 H1 locs1 hRX1 hPx1 hPm1 hz2 hS1 => ?_)
  refine lv_aload_n hx hb d_law_393 rfl (lv_at hl 1 rfl) ?_
  refine l_arg F hS1 (j := 1) (by decide) (by omega) hL hl ⟨d_law_394, d_law_395, d_law_396, d_law_397, d_law_398⟩ ?_
  refine l_arg F hS1 (j := 2) (by decide) (by omega) hL hl ⟨d_law_399, d_law_400, d_law_401, d_law_402, d_law_403⟩ ?_
  refine l_cM F (nA := 2) c_X12_breaks_0 (by decide) ⟨by decide, g_862, g_14, by decide +kernel, g_860, g_861, (List.mem_append_right _ (List.mem_of_getElem? (i := 1220) (by decide +kernel)))⟩ (vs := [xs (i + 1), xs (i + 2)]) rfl (by decide) (r := .int z) (st' := (p_breaks st (xs (i + 1)) (xs (i + 2))).2) (fun _ => rfl) (fun R hR => ⟨st, rfl, hSW, hRM, fun M' h' => by rw [hz1]; exact hR M' h'⟩) (rest := [.int z]) d_law_404 hl.1 (by exact Nat.le_of_ble_eq_true rfl) hPx1 hPm1 hz2 hS1 hcs (fun Mm1 H2 locs2 hRM1 hPx2 hPm2 hz3 hS2 => ?_)
  refine lv_icmp_eq (tgt := 1166) hx hb d_law_407 (by decide) (fun _ => ?_) (fun q => absurd rfl q)
  exact T _ _ _ _ _ ⟨k_breaks hSW, hRX1, hRM1, hz3, hPx2, hPm2⟩ hS2
theorem l_case_8 (F : l_Fx p s m meth c b L xs D cA ad0) (hIn : l_In D cA ad0 s.heap.size st Mx Mm H) (hS : va_S (fun q => s.heap.size ≤ q) s.heap H locs) (hi : i + 5 ≤ L) (hL : L ≤ 2560) (hl : lv_has ls 4 [(3, .int (nI i)), (2, .ref (l_aM ad0 s.heap.size 100)), (1, .ref (l_aX ad0 s.heap.size 0)), (0, .ref b)]) (hcs : cells ≤ 600000 ∧ slots ≤ 7302250) (T : ∀ (st' : fSt) (Mx' Mm' : fMem) (H' : Heap) (locs' : List Loc), l_In D cA ad0 s.heap.size st' Mx' Mm' H' → va_S (fun q => s.heap.size ≤ q) s.heap H' locs' → W p l e room_1 s m #[Value.ref b] below meth c H' locs' cells slots Q (F0 m 1166 ls [])) : W p l e room_1 s m #[Value.ref b] below meth c H locs cells slots Q (F0 m 412 ls []) := by
  obtain ⟨hx, hb, hr, hml, hown, hts, hX, hbl, hlocks, hgv⟩ := id F.1
  obtain ⟨hSW, hRX, hRM, hz, hPx, hPm⟩ := hIn
  obtain ⟨z, hz1⟩ := t_whole st 
  refine lv_aload_n hx hb d_law_412 rfl (lv_at hl 2 rfl) ?_
  refine l_cX F (nA := 0) c_X11_whole_0 (by decide) ⟨by decide, g_398, g_1, by decide +kernel, g_396, g_397, (List.mem_append_right _ (List.mem_of_getElem? (i := 601) (by decide +kernel)))⟩ (vs := []) rfl (by decide) (r := .int z) (st' := (p_whole st ).2) (fun _ => rfl) (fun R hR => ⟨st, rfl, hSW, hRX, fun M' h' => by rw [hz1]; exact hR M' h'⟩) (rest := []) d_law_413 hl.1 (by decide) hPx hPm hz hS hcs (fun Mx1 H1 locs1 hRX1 hPx1 hPm1 hz2 hS1 => ?_)
  refine lv_aload_n hx hb d_law_416 rfl (lv_at hl 1 rfl) ?_
  refine l_cM F (nA := 0) c_X12_whole_0 (by decide) ⟨by decide, g_866, g_14, by decide +kernel, g_864, g_865, (List.mem_append_right _ (List.mem_of_getElem? (i := 1224) (by decide +kernel)))⟩ (vs := []) rfl (by decide) (r := .int z) (st' := (p_whole st ).2) (fun _ => rfl) (fun R hR => ⟨st, rfl, hSW, hRM, fun M' h' => by rw [hz1]; exact hR M' h'⟩) (rest := [.int z]) d_law_417 hl.1 (by exact Nat.le_of_ble_eq_true rfl) hPx1 hPm1 hz2 hS1 hcs (fun Mm1 H2 locs2 hRM1 hPx2 hPm2 hz3 hS2 => ?_)
  refine lv_icmp_eq (tgt := 1166) hx hb d_law_420 (by decide) (fun _ => ?_) (fun q => absurd rfl q)
  exact T _ _ _ _ _ ⟨k_whole hSW, hRX1, hRM1, hz3, hPx2, hPm2⟩ hS2
theorem l_case_9 (F : l_Fx p s m meth c b L xs D cA ad0) (hIn : l_In D cA ad0 s.heap.size st Mx Mm H) (hS : va_S (fun q => s.heap.size ≤ q) s.heap H locs) (hi : i + 5 ≤ L) (hL : L ≤ 2560) (hl : lv_has ls 4 [(3, .int (nI i)), (2, .ref (l_aM ad0 s.heap.size 100)), (1, .ref (l_aX ad0 s.heap.size 0)), (0, .ref b)]) (hcs : cells ≤ 600000 ∧ slots ≤ 7302250) (T : ∀ (st' : fSt) (Mx' Mm' : fMem) (H' : Heap) (locs' : List Loc), l_In D cA ad0 s.heap.size st' Mx' Mm' H' → va_S (fun q => s.heap.size ≤ q) s.heap H' locs' → W p l e room_1 s m #[Value.ref b] below meth c H' locs' cells slots Q (F0 m 1166 ls [])) : W p l e room_1 s m #[Value.ref b] below meth c H locs cells slots Q (F0 m 425 ls []) := by
  obtain ⟨hx, hb, hr, hml, hown, hts, hX, hbl, hlocks, hgv⟩ := id F.1
  obtain ⟨hSW, hRX, hRM, hz, hPx, hPm⟩ := hIn
  obtain ⟨z, hz1⟩ := t_shape st (xs (i + 1))
  refine lv_aload_n hx hb d_law_425 rfl (lv_at hl 2 rfl) ?_
  refine l_arg F hS (j := 1) (by decide) (by omega) hL hl ⟨d_law_426, d_law_427, d_law_428, d_law_429, d_law_430⟩ ?_
  refine l_cX F (nA := 1) c_X11_shape_0 (by decide) ⟨by decide, g_402, g_1, by decide +kernel, g_400, g_401, (List.mem_append_right _ (List.mem_of_getElem? (i := 605) (by decide +kernel)))⟩ (vs := [xs (i + 1)]) rfl (by decide) (r := .int z) (st' := (p_shape st (xs (i + 1))).2) (fun _ => rfl) (fun R hR => ⟨st, rfl, hSW, hRX, fun M' h' => by rw [hz1]; exact hR M' h'⟩) (rest := []) d_law_431 hl.1 (by decide) hPx hPm hz hS hcs (fun Mx1 H1 locs1 hRX1 hPx1 hPm1 hz2 hS1 => ?_)
  refine lv_aload_n hx hb d_law_434 rfl (lv_at hl 1 rfl) ?_
  refine l_arg F hS1 (j := 1) (by decide) (by omega) hL hl ⟨d_law_435, d_law_436, d_law_437, d_law_438, d_law_439⟩ ?_
  refine l_cM F (nA := 1) c_X12_shape_0 (by decide) ⟨by decide, g_870, g_14, by decide +kernel, g_868, g_869, (List.mem_append_right _ (List.mem_of_getElem? (i := 1228) (by decide +kernel)))⟩ (vs := [xs (i + 1)]) rfl (by decide) (r := .int z) (st' := (p_shape st (xs (i + 1))).2) (fun _ => rfl) (fun R hR => ⟨st, rfl, hSW, hRM, fun M' h' => by rw [hz1]; exact hR M' h'⟩) (rest := [.int z]) d_law_440 hl.1 (by exact Nat.le_of_ble_eq_true rfl) hPx1 hPm1 hz2 hS1 hcs (fun Mm1 H2 locs2 hRM1 hPx2 hPm2 hz3 hS2 => ?_)
  refine lv_icmp_eq (tgt := 1166) hx hb d_law_443 (by decide) (fun _ => ?_) (fun q => absurd rfl q)
  exact T _ _ _ _ _ ⟨k_shape hSW, hRX1, hRM1, hz3, hPx2, hPm2⟩ hS2
theorem l_case_10 (F : l_Fx p s m meth c b L xs D cA ad0) (hIn : l_In D cA ad0 s.heap.size st Mx Mm H) (hS : va_S (fun q => s.heap.size ≤ q) s.heap H locs) (hi : i + 5 ≤ L) (hL : L ≤ 2560) (hl : lv_has ls 4 [(3, .int (nI i)), (2, .ref (l_aM ad0 s.heap.size 100)), (1, .ref (l_aX ad0 s.heap.size 0)), (0, .ref b)]) (hcs : cells ≤ 600000 ∧ slots ≤ 7302250) (T : ∀ (st' : fSt) (Mx' Mm' : fMem) (H' : Heap) (locs' : List Loc), l_In D cA ad0 s.heap.size st' Mx' Mm' H' → va_S (fun q => s.heap.size ≤ q) s.heap H' locs' → W p l e room_1 s m #[Value.ref b] below meth c H' locs' cells slots Q (F0 m 1166 ls [])) : W p l e room_1 s m #[Value.ref b] below meth c H locs cells slots Q (F0 m 448 ls []) := by
  obtain ⟨hx, hb, hr, hml, hown, hts, hX, hbl, hlocks, hgv⟩ := id F.1
  obtain ⟨hSW, hRX, hRM, hz, hPx, hPm⟩ := hIn
  obtain ⟨z, hz1⟩ := t_likely st (xs (i + 1)) (xs (i + 2)) (xs (i + 3)) (xs (i + 4))
  refine lv_aload_n hx hb d_law_448 rfl (lv_at hl 2 rfl) ?_
  refine l_arg F hS (j := 1) (by decide) (by omega) hL hl ⟨d_law_449, d_law_450, d_law_451, d_law_452, d_law_453⟩ ?_
  refine l_arg F hS (j := 2) (by decide) (by omega) hL hl ⟨d_law_454, d_law_455, d_law_456, d_law_457, d_law_458⟩ ?_
  refine l_arg F hS (j := 3) (by decide) (by omega) hL hl ⟨d_law_459, d_law_460, d_law_461, d_law_462, d_law_463⟩ ?_
  refine l_arg F hS (j := 4) (by decide) (by omega) hL hl ⟨d_law_464, d_law_465, d_law_466, d_law_467, d_law_468⟩ ?_
  refine l_cX F (nA := 4) c_X11_likely_0 (by decide) ⟨by decide, g_426, g_1, by decide +kernel, g_424, g_425, (List.mem_append_right _ (List.mem_of_getElem? (i := 646) (by decide +kernel)))⟩ (vs := [xs (i + 1), xs (i + 2), xs (i + 3), xs (i + 4)]) rfl (by decide) (r := .long z) (st' := (p_likely st (xs (i + 1)) (xs (i + 2)) (xs (i + 3)) (xs (i + 4))).2) (fun _ => rfl) (fun R hR => ⟨st, rfl, hSW, hRX, fun M' h' => by rw [hz1]; exact hR M' h'⟩) (rest := []) d_law_469 hl.1 (by decide) hPx hPm hz hS hcs (fun Mx1 H1 locs1 hRX1 hPx1 hPm1 hz2 hS1 => ?_)
  refine lv_aload_n hx hb d_law_472 rfl (lv_at hl 1 rfl) ?_
  refine l_arg F hS1 (j := 1) (by decide) (by omega) hL hl ⟨d_law_473, d_law_474, d_law_475, d_law_476, d_law_477⟩ ?_
  refine l_arg F hS1 (j := 2) (by decide) (by omega) hL hl ⟨d_law_478, d_law_479, d_law_480, d_law_481, d_law_482⟩ ?_
  refine l_arg F hS1 (j := 3) (by decide) (by omega) hL hl ⟨d_law_483, d_law_484, d_law_485, d_law_486, d_law_487⟩ ?_
  refine l_arg F hS1 (j := 4) (by decide) (by omega) hL hl ⟨d_law_488, d_law_489, d_law_490, d_law_491, d_law_492⟩ ?_
  refine l_cM F (nA := 4) c_X12_likely_0 (by decide) ⟨by decide, g_889, g_14, by decide +kernel, g_887, g_888, (List.mem_append_right _ (List.mem_of_getElem? (i := 1252) (by decide +kernel)))⟩ (vs := [xs (i + 1), xs (i + 2), xs (i + 3), xs (i + 4)]) rfl (by decide) (r := .long z) (st' := (p_likely st (xs (i + 1)) (xs (i + 2)) (xs (i + 3)) (xs (i + 4))).2) (fun _ => rfl) (fun R hR => ⟨st, rfl, hSW, hRM, fun M' h' => by rw [hz1]; exact hR M' h'⟩) (rest := [.long z]) d_law_493 hl.1 (by exact Nat.le_of_ble_eq_true rfl) hPx1 hPm1 hz2 hS1 hcs (fun Mm1 H2 locs2 hRM1 hPx2 hPm2 hz3 hS2 => ?_)
  refine W.lcmp hx hb d_law_496 ?_
  rw [l_cmp_self]
  refine lv_if_eq (tgt := 1166) hx hb d_law_497 (by decide) (fun _ => ?_) (fun q => absurd rfl q)
  exact T _ _ _ _ _ ⟨k_likely hSW, hRX1, hRM1, hz3, hPx2, hPm2⟩ hS2
theorem l_case_11 (F : l_Fx p s m meth c b L xs D cA ad0) (hIn : l_In D cA ad0 s.heap.size st Mx Mm H) (hS : va_S (fun q => s.heap.size ≤ q) s.heap H locs) (hi : i + 5 ≤ L) (hL : L ≤ 2560) (hl : lv_has ls 4 [(3, .int (nI i)), (2, .ref (l_aM ad0 s.heap.size 100)), (1, .ref (l_aX ad0 s.heap.size 0)), (0, .ref b)]) (hcs : cells ≤ 600000 ∧ slots ≤ 7302250) (T : ∀ (st' : fSt) (Mx' Mm' : fMem) (H' : Heap) (locs' : List Loc), l_In D cA ad0 s.heap.size st' Mx' Mm' H' → va_S (fun q => s.heap.size ≤ q) s.heap H' locs' → W p l e room_1 s m #[Value.ref b] below meth c H' locs' cells slots Q (F0 m 1166 ls [])) : W p l e room_1 s m #[Value.ref b] below meth c H locs cells slots Q (F0 m 502 ls []) := by
  obtain ⟨hx, hb, hr, hml, hown, hts, hX, hbl, hlocks, hgv⟩ := id F.1
  obtain ⟨hSW, hRX, hRM, hz, hPx, hPm⟩ := hIn
  obtain ⟨z, hz1⟩ := t_mean st (xs (i + 1)) (xs (i + 2)) (xs (i + 3))
  refine lv_aload_n hx hb d_law_502 rfl (lv_at hl 2 rfl) ?_
  refine l_arg F hS (j := 1) (by decide) (by omega) hL hl ⟨d_law_503, d_law_504, d_law_505, d_law_506, d_law_507⟩ ?_
  refine l_arg F hS (j := 2) (by decide) (by omega) hL hl ⟨d_law_508, d_law_509, d_law_510, d_law_511, d_law_512⟩ ?_
  refine l_arg F hS (j := 3) (by decide) (by omega) hL hl ⟨d_law_513, d_law_514, d_law_515, d_law_516, d_law_517⟩ ?_
  refine l_cX F (nA := 3) c_X11_mean_0 (by decide) ⟨by decide, g_461, g_1, by decide +kernel, g_459, g_460, (List.mem_append_right _ (List.mem_of_getElem? (i := 696) (by decide +kernel)))⟩ (vs := [xs (i + 1), xs (i + 2), xs (i + 3)]) rfl (by decide) (r := .long z) (st' := (p_mean st (xs (i + 1)) (xs (i + 2)) (xs (i + 3))).2) (fun _ => rfl) (fun R hR => ⟨st, rfl, hSW, hRX, fun M' h' => by rw [hz1]; exact hR M' h'⟩) (rest := []) d_law_518 hl.1 (by decide) hPx hPm hz hS hcs (fun Mx1 H1 locs1 hRX1 hPx1 hPm1 hz2 hS1 => ?_)
  refine lv_aload_n hx hb d_law_521 rfl (lv_at hl 1 rfl) ?_
  refine l_arg F hS1 (j := 1) (by decide) (by omega) hL hl ⟨d_law_522, d_law_523, d_law_524, d_law_525, d_law_526⟩ ?_
  refine l_arg F hS1 (j := 2) (by decide) (by omega) hL hl ⟨d_law_527, d_law_528, d_law_529, d_law_530, d_law_531⟩ ?_
  refine l_arg F hS1 (j := 3) (by decide) (by omega) hL hl ⟨d_law_532, d_law_533, d_law_534, d_law_535, d_law_536⟩ ?_
  refine l_cM F (nA := 3) c_X12_mean_0 (by decide) ⟨by decide, g_914, g_14, by decide +kernel, g_912, g_913, (List.mem_append_right _ (List.mem_of_getElem? (i := 1281) (by decide +kernel)))⟩ (vs := [xs (i + 1), xs (i + 2), xs (i + 3)]) rfl (by decide) (r := .long z) (st' := (p_mean st (xs (i + 1)) (xs (i + 2)) (xs (i + 3))).2) (fun _ => rfl) (fun R hR => ⟨st, rfl, hSW, hRM, fun M' h' => by rw [hz1]; exact hR M' h'⟩) (rest := [.long z]) d_law_537 hl.1 (by exact Nat.le_of_ble_eq_true rfl) hPx1 hPm1 hz2 hS1 hcs (fun Mm1 H2 locs2 hRM1 hPx2 hPm2 hz3 hS2 => ?_)
  refine W.lcmp hx hb d_law_540 ?_
  rw [l_cmp_self]
  refine lv_if_eq (tgt := 1166) hx hb d_law_541 (by decide) (fun _ => ?_) (fun q => absurd rfl q)
  exact T _ _ _ _ _ ⟨k_mean hSW, hRX1, hRM1, hz3, hPx2, hPm2⟩ hS2
theorem l_case_12 (F : l_Fx p s m meth c b L xs D cA ad0) (hIn : l_In D cA ad0 s.heap.size st Mx Mm H) (hS : va_S (fun q => s.heap.size ≤ q) s.heap H locs) (hi : i + 5 ≤ L) (hL : L ≤ 2560) (hl : lv_has ls 4 [(3, .int (nI i)), (2, .ref (l_aM ad0 s.heap.size 100)), (1, .ref (l_aX ad0 s.heap.size 0)), (0, .ref b)]) (hcs : cells ≤ 600000 ∧ slots ≤ 7302250) (T : ∀ (st' : fSt) (Mx' Mm' : fMem) (H' : Heap) (locs' : List Loc), l_In D cA ad0 s.heap.size st' Mx' Mm' H' → va_S (fun q => s.heap.size ≤ q) s.heap H' locs' → W p l e room_1 s m #[Value.ref b] below meth c H' locs' cells slots Q (F0 m 1166 ls [])) : W p l e room_1 s m #[Value.ref b] below meth c H locs cells slots Q (F0 m 546 ls []) := by
  obtain ⟨hx, hb, hr, hml, hown, hts, hX, hbl, hlocks, hgv⟩ := id F.1
  obtain ⟨hSW, hRX, hRM, hz, hPx, hPm⟩ := hIn
  obtain ⟨z, hz1⟩ := t_costs st (xs (i + 1)) (xs (i + 2))
  refine lv_aload_n hx hb d_law_546 rfl (lv_at hl 2 rfl) ?_
  refine l_arg F hS (j := 1) (by decide) (by omega) hL hl ⟨d_law_547, d_law_548, d_law_549, d_law_550, d_law_551⟩ ?_
  refine l_arg F hS (j := 2) (by decide) (by omega) hL hl ⟨d_law_552, d_law_553, d_law_554, d_law_555, d_law_556⟩ ?_
  refine l_cX F (nA := 2) c_X11_costs_0 (by decide) ⟨by decide, g_467, g_1, by decide +kernel, g_465, g_466, (List.mem_append_right _ (List.mem_of_getElem? (i := 705) (by decide +kernel)))⟩ (vs := [xs (i + 1), xs (i + 2)]) rfl (by decide) (r := .long z) (st' := (p_costs st (xs (i + 1)) (xs (i + 2))).2) (fun _ => rfl) (fun R hR => ⟨st, rfl, hSW, hRX, fun M' h' => by rw [hz1]; exact hR M' h'⟩) (rest := []) d_law_557 hl.1 (by decide) hPx hPm hz hS hcs (fun Mx1 H1 locs1 hRX1 hPx1 hPm1 hz2 hS1 => ?_)
  refine lv_aload_n hx hb d_law_560 rfl (lv_at hl 1 rfl) ?_
  refine l_arg F hS1 (j := 1) (by decide) (by omega) hL hl ⟨d_law_561, d_law_562, d_law_563, d_law_564, d_law_565⟩ ?_
  refine l_arg F hS1 (j := 2) (by decide) (by omega) hL hl ⟨d_law_566, d_law_567, d_law_568, d_law_569, d_law_570⟩ ?_
  refine l_cM F (nA := 2) c_X12_costs_0 (by decide) ⟨by decide, g_918, g_14, by decide +kernel, g_916, g_917, (List.mem_append_right _ (List.mem_of_getElem? (i := 1285) (by decide +kernel)))⟩ (vs := [xs (i + 1), xs (i + 2)]) rfl (by decide) (r := .long z) (st' := (p_costs st (xs (i + 1)) (xs (i + 2))).2) (fun _ => rfl) (fun R hR => ⟨st, rfl, hSW, hRM, fun M' h' => by rw [hz1]; exact hR M' h'⟩) (rest := [.long z]) d_law_571 hl.1 (by exact Nat.le_of_ble_eq_true rfl) hPx1 hPm1 hz2 hS1 hcs (fun Mm1 H2 locs2 hRM1 hPx2 hPm2 hz3 hS2 => ?_)
  refine W.lcmp hx hb d_law_574 ?_
  rw [l_cmp_self]
  refine lv_if_eq (tgt := 1166) hx hb d_law_575 (by decide) (fun _ => ?_) (fun q => absurd rfl q)
  exact T _ _ _ _ _ ⟨k_costs hSW, hRX1, hRM1, hz3, hPx2, hPm2⟩ hS2
theorem l_case_13 (F : l_Fx p s m meth c b L xs D cA ad0) (hIn : l_In D cA ad0 s.heap.size st Mx Mm H) (hS : va_S (fun q => s.heap.size ≤ q) s.heap H locs) (hi : i + 5 ≤ L) (hL : L ≤ 2560) (hl : lv_has ls 4 [(3, .int (nI i)), (2, .ref (l_aM ad0 s.heap.size 100)), (1, .ref (l_aX ad0 s.heap.size 0)), (0, .ref b)]) (hcs : cells ≤ 600000 ∧ slots ≤ 7302250) (T : ∀ (st' : fSt) (Mx' Mm' : fMem) (H' : Heap) (locs' : List Loc), l_In D cA ad0 s.heap.size st' Mx' Mm' H' → va_S (fun q => s.heap.size ≤ q) s.heap H' locs' → W p l e room_1 s m #[Value.ref b] below meth c H' locs' cells slots Q (F0 m 1166 ls [])) : W p l e room_1 s m #[Value.ref b] below meth c H locs cells slots Q (F0 m 580 ls []) := by
  obtain ⟨hx, hb, hr, hml, hown, hts, hX, hbl, hlocks, hgv⟩ := id F.1
  obtain ⟨hSW, hRX, hRM, hz, hPx, hPm⟩ := hIn
  obtain ⟨z, hz1⟩ := t_until st (xs (i + 1)) (xs (i + 2))
  refine lv_aload_n hx hb d_law_580 rfl (lv_at hl 2 rfl) ?_
  refine l_arg F hS (j := 1) (by decide) (by omega) hL hl ⟨d_law_581, d_law_582, d_law_583, d_law_584, d_law_585⟩ ?_
  refine l_arg F hS (j := 2) (by decide) (by omega) hL hl ⟨d_law_586, d_law_587, d_law_588, d_law_589, d_law_590⟩ ?_
  refine l_cX F (nA := 2) c_X11_until_0 (by decide) ⟨by decide, g_471, g_1, by decide +kernel, g_469, g_470, (List.mem_append_right _ (List.mem_of_getElem? (i := 709) (by decide +kernel)))⟩ (vs := [xs (i + 1), xs (i + 2)]) rfl (by decide) (r := .long z) (st' := (p_until st (xs (i + 1)) (xs (i + 2))).2) (fun _ => rfl) (fun R hR => ⟨st, rfl, hSW, hRX, fun M' h' => by rw [hz1]; exact hR M' h'⟩) (rest := []) d_law_591 hl.1 (by decide) hPx hPm hz hS hcs (fun Mx1 H1 locs1 hRX1 hPx1 hPm1 hz2 hS1 => ?_)
  refine lv_aload_n hx hb d_law_594 rfl (lv_at hl 1 rfl) ?_
  refine l_arg F hS1 (j := 1) (by decide) (by omega) hL hl ⟨d_law_595, d_law_596, d_law_597, d_law_598, d_law_599⟩ ?_
  refine l_arg F hS1 (j := 2) (by decide) (by omega) hL hl ⟨d_law_600, d_law_601, d_law_602, d_law_603, d_law_604⟩ ?_
  refine l_cM F (nA := 2) c_X12_until_0 (by decide) ⟨by decide, g_925, g_14, by decide +kernel, g_923, g_924, (List.mem_append_right _ (List.mem_of_getElem? (i := 1293) (by decide +kernel)))⟩ (vs := [xs (i + 1), xs (i + 2)]) rfl (by decide) (r := .long z) (st' := (p_until st (xs (i + 1)) (xs (i + 2))).2) (fun _ => rfl) (fun R hR => ⟨st, rfl, hSW, hRM, fun M' h' => by rw [hz1]; exact hR M' h'⟩) (rest := [.long z]) d_law_605 hl.1 (by exact Nat.le_of_ble_eq_true rfl) hPx1 hPm1 hz2 hS1 hcs (fun Mm1 H2 locs2 hRM1 hPx2 hPm2 hz3 hS2 => ?_)
  refine W.lcmp hx hb d_law_608 ?_
  rw [l_cmp_self]
  refine lv_if_eq (tgt := 1166) hx hb d_law_609 (by decide) (fun _ => ?_) (fun q => absurd rfl q)
  exact T _ _ _ _ _ ⟨k_until hSW, hRX1, hRM1, hz3, hPx2, hPm2⟩ hS2
theorem l_case_14 (F : l_Fx p s m meth c b L xs D cA ad0) (hIn : l_In D cA ad0 s.heap.size st Mx Mm H) (hS : va_S (fun q => s.heap.size ≤ q) s.heap H locs) (hi : i + 5 ≤ L) (hL : L ≤ 2560) (hl : lv_has ls 4 [(3, .int (nI i)), (2, .ref (l_aM ad0 s.heap.size 100)), (1, .ref (l_aX ad0 s.heap.size 0)), (0, .ref b)]) (hcs : cells ≤ 600000 ∧ slots ≤ 7302250) (T : ∀ (st' : fSt) (Mx' Mm' : fMem) (H' : Heap) (locs' : List Loc), l_In D cA ad0 s.heap.size st' Mx' Mm' H' → va_S (fun q => s.heap.size ≤ q) s.heap H' locs' → W p l e room_1 s m #[Value.ref b] below meth c H' locs' cells slots Q (F0 m 1166 ls [])) : W p l e room_1 s m #[Value.ref b] below meth c H locs cells slots Q (F0 m 614 ls []) := by
  obtain ⟨hx, hb, hr, hml, hown, hts, hX, hbl, hlocks, hgv⟩ := id F.1
  obtain ⟨hSW, hRX, hRM, hz, hPx, hPm⟩ := hIn
  obtain ⟨z, hz1⟩ := t_hidden st (xs (i + 1)) (xs (i + 2)) (xs (i + 3)) (xs (i + 4))
  refine lv_aload_n hx hb d_law_614 rfl (lv_at hl 2 rfl) ?_
  refine l_arg F hS (j := 1) (by decide) (by omega) hL hl ⟨d_law_615, d_law_616, d_law_617, d_law_618, d_law_619⟩ ?_
  refine l_arg F hS (j := 2) (by decide) (by omega) hL hl ⟨d_law_620, d_law_621, d_law_622, d_law_623, d_law_624⟩ ?_
  refine l_arg F hS (j := 3) (by decide) (by omega) hL hl ⟨d_law_625, d_law_626, d_law_627, d_law_628, d_law_629⟩ ?_
  refine l_arg F hS (j := 4) (by decide) (by omega) hL hl ⟨d_law_630, d_law_631, d_law_632, d_law_633, d_law_634⟩ ?_
  refine l_cX F (nA := 4) c_X11_hidden_0 (by decide) ⟨by decide, g_476, g_1, by decide +kernel, g_474, g_475, (List.mem_append_right _ (List.mem_of_getElem? (i := 714) (by decide +kernel)))⟩ (vs := [xs (i + 1), xs (i + 2), xs (i + 3), xs (i + 4)]) rfl (by decide) (r := .long z) (st' := (p_hidden st (xs (i + 1)) (xs (i + 2)) (xs (i + 3)) (xs (i + 4))).2) (fun _ => rfl) (fun R hR => ⟨st, rfl, hSW, hRX, fun M' h' => by rw [hz1]; exact hR M' h'⟩) (rest := []) d_law_635 hl.1 (by decide) hPx hPm hz hS hcs (fun Mx1 H1 locs1 hRX1 hPx1 hPm1 hz2 hS1 => ?_)
  refine lv_aload_n hx hb d_law_638 rfl (lv_at hl 1 rfl) ?_
  refine l_arg F hS1 (j := 1) (by decide) (by omega) hL hl ⟨d_law_639, d_law_640, d_law_641, d_law_642, d_law_643⟩ ?_
  refine l_arg F hS1 (j := 2) (by decide) (by omega) hL hl ⟨d_law_644, d_law_645, d_law_646, d_law_647, d_law_648⟩ ?_
  refine l_arg F hS1 (j := 3) (by decide) (by omega) hL hl ⟨d_law_649, d_law_650, d_law_651, d_law_652, d_law_653⟩ ?_
  refine l_arg F hS1 (j := 4) (by decide) (by omega) hL hl ⟨d_law_654, d_law_655, d_law_656, d_law_657, d_law_658⟩ ?_
  refine l_cM F (nA := 4) c_X12_hidden_0 (by decide) ⟨by decide, g_930, g_14, by decide +kernel, g_928, g_929, (List.mem_append_right _ (List.mem_of_getElem? (i := 1298) (by decide +kernel)))⟩ (vs := [xs (i + 1), xs (i + 2), xs (i + 3), xs (i + 4)]) rfl (by decide) (r := .long z) (st' := (p_hidden st (xs (i + 1)) (xs (i + 2)) (xs (i + 3)) (xs (i + 4))).2) (fun _ => rfl) (fun R hR => ⟨st, rfl, hSW, hRM, fun M' h' => by rw [hz1]; exact hR M' h'⟩) (rest := [.long z]) d_law_659 hl.1 (by exact Nat.le_of_ble_eq_true rfl) hPx1 hPm1 hz2 hS1 hcs (fun Mm1 H2 locs2 hRM1 hPx2 hPm2 hz3 hS2 => ?_)
  refine W.lcmp hx hb d_law_662 ?_
  rw [l_cmp_self]
  refine lv_if_eq (tgt := 1166) hx hb d_law_663 (by decide) (fun _ => ?_) (fun q => absurd rfl q)
  exact T _ _ _ _ _ ⟨k_hidden hSW, hRX1, hRM1, hz3, hPx2, hPm2⟩ hS2
theorem l_case_15 (F : l_Fx p s m meth c b L xs D cA ad0) (hIn : l_In D cA ad0 s.heap.size st Mx Mm H) (hS : va_S (fun q => s.heap.size ≤ q) s.heap H locs) (hi : i + 5 ≤ L) (hL : L ≤ 2560) (hl : lv_has ls 4 [(3, .int (nI i)), (2, .ref (l_aM ad0 s.heap.size 100)), (1, .ref (l_aX ad0 s.heap.size 0)), (0, .ref b)]) (hcs : cells ≤ 600000 ∧ slots ≤ 7302250) (T : ∀ (st' : fSt) (Mx' Mm' : fMem) (H' : Heap) (locs' : List Loc), l_In D cA ad0 s.heap.size st' Mx' Mm' H' → va_S (fun q => s.heap.size ≤ q) s.heap H' locs' → W p l e room_1 s m #[Value.ref b] below meth c H' locs' cells slots Q (F0 m 1166 ls [])) : W p l e room_1 s m #[Value.ref b] below meth c H locs cells slots Q (F0 m 668 ls []) := by
  obtain ⟨hx, hb, hr, hml, hown, hts, hX, hbl, hlocks, hgv⟩ := id F.1
  obtain ⟨hSW, hRX, hRM, hz, hPx, hPm⟩ := hIn
  obtain ⟨z, hz1⟩ := t_box st (xs (i + 1))
  refine lv_aload_n hx hb d_law_668 rfl (lv_at hl 2 rfl) ?_
  refine l_arg F hS (j := 1) (by decide) (by omega) hL hl ⟨d_law_669, d_law_670, d_law_671, d_law_672, d_law_673⟩ ?_
  refine l_cX F (nA := 1) c_X11_box_0 (by decide) ⟨by decide, g_489, g_1, by decide +kernel, g_487, g_488, (List.mem_append_right _ (List.mem_of_getElem? (i := 732) (by decide +kernel)))⟩ (vs := [xs (i + 1)]) rfl (by decide) (r := .int z) (st' := (p_box st (xs (i + 1))).2) (fun _ => rfl) (fun R hR => ⟨st, rfl, hSW, hRX, fun M' h' => by rw [hz1]; exact hR M' h'⟩) (rest := []) d_law_674 hl.1 (by decide) hPx hPm hz hS hcs (fun Mx1 H1 locs1 hRX1 hPx1 hPm1 hz2 hS1 => ?_)
  refine lv_aload_n hx hb d_law_677 rfl (lv_at hl 1 rfl) ?_
  refine l_arg F hS1 (j := 1) (by decide) (by omega) hL hl ⟨d_law_678, d_law_679, d_law_680, d_law_681, d_law_682⟩ ?_
  refine l_cM F (nA := 1) c_X12_box_0 (by decide) ⟨by decide, g_940, g_14, by decide +kernel, g_938, g_939, (List.mem_append_right _ (List.mem_of_getElem? (i := 1309) (by decide +kernel)))⟩ (vs := [xs (i + 1)]) rfl (by decide) (r := .int z) (st' := (p_box st (xs (i + 1))).2) (fun _ => rfl) (fun R hR => ⟨st, rfl, hSW, hRM, fun M' h' => by rw [hz1]; exact hR M' h'⟩) (rest := [.int z]) d_law_683 hl.1 (by exact Nat.le_of_ble_eq_true rfl) hPx1 hPm1 hz2 hS1 hcs (fun Mm1 H2 locs2 hRM1 hPx2 hPm2 hz3 hS2 => ?_)
  refine lv_icmp_eq (tgt := 1166) hx hb d_law_686 (by decide) (fun _ => ?_) (fun q => absurd rfl q)
  exact T _ _ _ _ _ ⟨k_box hSW, hRX1, hRM1, hz3, hPx2, hPm2⟩ hS2
theorem l_case_16 (F : l_Fx p s m meth c b L xs D cA ad0) (hIn : l_In D cA ad0 s.heap.size st Mx Mm H) (hS : va_S (fun q => s.heap.size ≤ q) s.heap H locs) (hi : i + 5 ≤ L) (hL : L ≤ 2560) (hl : lv_has ls 4 [(3, .int (nI i)), (2, .ref (l_aM ad0 s.heap.size 100)), (1, .ref (l_aX ad0 s.heap.size 0)), (0, .ref b)]) (hcs : cells ≤ 600000 ∧ slots ≤ 7302250) (T : ∀ (st' : fSt) (Mx' Mm' : fMem) (H' : Heap) (locs' : List Loc), l_In D cA ad0 s.heap.size st' Mx' Mm' H' → va_S (fun q => s.heap.size ≤ q) s.heap H' locs' → W p l e room_1 s m #[Value.ref b] below meth c H' locs' cells slots Q (F0 m 1166 ls [])) : W p l e room_1 s m #[Value.ref b] below meth c H locs cells slots Q (F0 m 691 ls []) := by
  obtain ⟨hx, hb, hr, hml, hown, hts, hX, hbl, hlocks, hgv⟩ := id F.1
  obtain ⟨hSW, hRX, hRM, hz, hPx, hPm⟩ := hIn
  obtain ⟨z, hz1⟩ := t_triangles st 
  refine lv_aload_n hx hb d_law_691 rfl (lv_at hl 2 rfl) ?_
  refine l_cX F (nA := 0) c_X11_triangles_0 (by decide) ⟨by decide, g_493, g_1, by decide +kernel, g_491, g_492, (List.mem_append_right _ (List.mem_of_getElem? (i := 736) (by decide +kernel)))⟩ (vs := []) rfl (by decide) (r := .int z) (st' := (p_triangles st ).2) (fun _ => rfl) (fun R hR => ⟨st, rfl, hSW, hRX, fun M' h' => by rw [hz1]; exact hR M' h'⟩) (rest := []) d_law_692 hl.1 (by decide) hPx hPm hz hS hcs (fun Mx1 H1 locs1 hRX1 hPx1 hPm1 hz2 hS1 => ?_)
  refine lv_aload_n hx hb d_law_695 rfl (lv_at hl 1 rfl) ?_
  refine l_cM F (nA := 0) c_X12_triangles_0 (by decide) ⟨by decide, g_944, g_14, by decide +kernel, g_942, g_943, (List.mem_append_right _ (List.mem_of_getElem? (i := 1313) (by decide +kernel)))⟩ (vs := []) rfl (by decide) (r := .int z) (st' := (p_triangles st ).2) (fun _ => rfl) (fun R hR => ⟨st, rfl, hSW, hRM, fun M' h' => by rw [hz1]; exact hR M' h'⟩) (rest := [.int z]) d_law_696 hl.1 (by exact Nat.le_of_ble_eq_true rfl) hPx1 hPm1 hz2 hS1 hcs (fun Mm1 H2 locs2 hRM1 hPx2 hPm2 hz3 hS2 => ?_)
  refine lv_icmp_eq (tgt := 1166) hx hb d_law_699 (by decide) (fun _ => ?_) (fun q => absurd rfl q)
  exact T _ _ _ _ _ ⟨k_triangles hSW, hRX1, hRM1, hz3, hPx2, hPm2⟩ hS2
theorem l_case_17 (F : l_Fx p s m meth c b L xs D cA ad0) (hIn : l_In D cA ad0 s.heap.size st Mx Mm H) (hS : va_S (fun q => s.heap.size ≤ q) s.heap H locs) (hi : i + 5 ≤ L) (hL : L ≤ 2560) (hl : lv_has ls 4 [(3, .int (nI i)), (2, .ref (l_aM ad0 s.heap.size 100)), (1, .ref (l_aX ad0 s.heap.size 0)), (0, .ref b)]) (hcs : cells ≤ 600000 ∧ slots ≤ 7302250) (T : ∀ (st' : fSt) (Mx' Mm' : fMem) (H' : Heap) (locs' : List Loc), l_In D cA ad0 s.heap.size st' Mx' Mm' H' → va_S (fun q => s.heap.size ≤ q) s.heap H' locs' → W p l e room_1 s m #[Value.ref b] below meth c H' locs' cells slots Q (F0 m 1166 ls [])) : W p l e room_1 s m #[Value.ref b] below meth c H locs cells slots Q (F0 m 704 ls []) := by
  obtain ⟨hx, hb, hr, hml, hown, hts, hX, hbl, hlocks, hgv⟩ := id F.1
  obtain ⟨hSW, hRX, hRM, hz, hPx, hPm⟩ := hIn
  obtain ⟨z, hz1⟩ := t_drawn st (xs (i + 1))
  refine lv_aload_n hx hb d_law_704 rfl (lv_at hl 2 rfl) ?_
  refine l_arg F hS (j := 1) (by decide) (by omega) hL hl ⟨d_law_705, d_law_706, d_law_707, d_law_708, d_law_709⟩ ?_
  refine l_cX F (nA := 1) c_X11_drawn_0 (by decide) ⟨by decide, g_502, g_1, by decide +kernel, g_500, g_501, (List.mem_append_right _ (List.mem_of_getElem? (i := 747) (by decide +kernel)))⟩ (vs := [xs (i + 1)]) rfl (by decide) (r := .long z) (st' := (p_drawn st (xs (i + 1))).2) (fun _ => rfl) (fun R hR => ⟨st, rfl, hSW, hRX, fun M' h' => by rw [hz1]; exact hR M' h'⟩) (rest := []) d_law_710 hl.1 (by decide) hPx hPm hz hS hcs (fun Mx1 H1 locs1 hRX1 hPx1 hPm1 hz2 hS1 => ?_)
  refine lv_aload_n hx hb d_law_713 rfl (lv_at hl 1 rfl) ?_
  refine l_arg F hS1 (j := 1) (by decide) (by omega) hL hl ⟨d_law_714, d_law_715, d_law_716, d_law_717, d_law_718⟩ ?_
  refine l_cM F (nA := 1) c_X12_drawn_0 (by decide) ⟨by decide, g_954, g_14, by decide +kernel, g_952, g_953, (List.mem_append_right _ (List.mem_of_getElem? (i := 1324) (by decide +kernel)))⟩ (vs := [xs (i + 1)]) rfl (by decide) (r := .long z) (st' := (p_drawn st (xs (i + 1))).2) (fun _ => rfl) (fun R hR => ⟨st, rfl, hSW, hRM, fun M' h' => by rw [hz1]; exact hR M' h'⟩) (rest := [.long z]) d_law_719 hl.1 (by exact Nat.le_of_ble_eq_true rfl) hPx1 hPm1 hz2 hS1 hcs (fun Mm1 H2 locs2 hRM1 hPx2 hPm2 hz3 hS2 => ?_)
  refine W.lcmp hx hb d_law_722 ?_
  rw [l_cmp_self]
  refine lv_if_eq (tgt := 1166) hx hb d_law_723 (by decide) (fun _ => ?_) (fun q => absurd rfl q)
  exact T _ _ _ _ _ ⟨k_drawn hSW, hRX1, hRM1, hz3, hPx2, hPm2⟩ hS2
theorem l_case_18 (F : l_Fx p s m meth c b L xs D cA ad0) (hIn : l_In D cA ad0 s.heap.size st Mx Mm H) (hS : va_S (fun q => s.heap.size ≤ q) s.heap H locs) (hi : i + 5 ≤ L) (hL : L ≤ 2560) (hl : lv_has ls 4 [(3, .int (nI i)), (2, .ref (l_aM ad0 s.heap.size 100)), (1, .ref (l_aX ad0 s.heap.size 0)), (0, .ref b)]) (hcs : cells ≤ 600000 ∧ slots ≤ 7302250) (T : ∀ (st' : fSt) (Mx' Mm' : fMem) (H' : Heap) (locs' : List Loc), l_In D cA ad0 s.heap.size st' Mx' Mm' H' → va_S (fun q => s.heap.size ≤ q) s.heap H' locs' → W p l e room_1 s m #[Value.ref b] below meth c H' locs' cells slots Q (F0 m 1166 ls [])) : W p l e room_1 s m #[Value.ref b] below meth c H locs cells slots Q (F0 m 728 ls []) := by
  obtain ⟨hx, hb, hr, hml, hown, hts, hX, hbl, hlocks, hgv⟩ := id F.1
  obtain ⟨hSW, hRX, hRM, hz, hPx, hPm⟩ := hIn
  obtain ⟨z, hz1⟩ := t_none st (xs (i + 1))
  refine lv_aload_n hx hb d_law_728 rfl (lv_at hl 2 rfl) ?_
  refine l_arg F hS (j := 1) (by decide) (by omega) hL hl ⟨d_law_729, d_law_730, d_law_731, d_law_732, d_law_733⟩ ?_
  refine l_cX F (nA := 1) c_X11_none_0 (by decide) ⟨by decide, g_506, g_1, by decide +kernel, g_504, g_505, (List.mem_append_right _ (List.mem_of_getElem? (i := 751) (by decide +kernel)))⟩ (vs := [xs (i + 1)]) rfl (by decide) (r := .int z) (st' := (p_none st (xs (i + 1))).2) (fun _ => rfl) (fun R hR => ⟨st, rfl, hSW, hRX, fun M' h' => by rw [hz1]; exact hR M' h'⟩) (rest := []) d_law_734 hl.1 (by decide) hPx hPm hz hS hcs (fun Mx1 H1 locs1 hRX1 hPx1 hPm1 hz2 hS1 => ?_)
  refine lv_aload_n hx hb d_law_737 rfl (lv_at hl 1 rfl) ?_
  refine l_arg F hS1 (j := 1) (by decide) (by omega) hL hl ⟨d_law_738, d_law_739, d_law_740, d_law_741, d_law_742⟩ ?_
  refine l_cM F (nA := 1) c_X12_none_0 (by decide) ⟨by decide, g_961, g_14, by decide +kernel, g_959, g_960, (List.mem_append_right _ (List.mem_of_getElem? (i := 1331) (by decide +kernel)))⟩ (vs := [xs (i + 1)]) rfl (by decide) (r := .int z) (st' := (p_none st (xs (i + 1))).2) (fun _ => rfl) (fun R hR => ⟨st, rfl, hSW, hRM, fun M' h' => by rw [hz1]; exact hR M' h'⟩) (rest := [.int z]) d_law_743 hl.1 (by exact Nat.le_of_ble_eq_true rfl) hPx1 hPm1 hz2 hS1 hcs (fun Mm1 H2 locs2 hRM1 hPx2 hPm2 hz3 hS2 => ?_)
  refine lv_icmp_eq (tgt := 1166) hx hb d_law_746 (by decide) (fun _ => ?_) (fun q => absurd rfl q)
  exact T _ _ _ _ _ ⟨k_none hSW, hRX1, hRM1, hz3, hPx2, hPm2⟩ hS2
theorem l_case_19 (F : l_Fx p s m meth c b L xs D cA ad0) (hIn : l_In D cA ad0 s.heap.size st Mx Mm H) (hS : va_S (fun q => s.heap.size ≤ q) s.heap H locs) (hi : i + 5 ≤ L) (hL : L ≤ 2560) (hl : lv_has ls 4 [(3, .int (nI i)), (2, .ref (l_aM ad0 s.heap.size 100)), (1, .ref (l_aX ad0 s.heap.size 0)), (0, .ref b)]) (hcs : cells ≤ 600000 ∧ slots ≤ 7302250) (T : ∀ (st' : fSt) (Mx' Mm' : fMem) (H' : Heap) (locs' : List Loc), l_In D cA ad0 s.heap.size st' Mx' Mm' H' → va_S (fun q => s.heap.size ≤ q) s.heap H' locs' → W p l e room_1 s m #[Value.ref b] below meth c H' locs' cells slots Q (F0 m 1166 ls [])) : W p l e room_1 s m #[Value.ref b] below meth c H locs cells slots Q (F0 m 751 ls []) := by
  obtain ⟨hx, hb, hr, hml, hown, hts, hX, hbl, hlocks, hgv⟩ := id F.1
  obtain ⟨hSW, hRX, hRM, hz, hPx, hPm⟩ := hIn
  obtain ⟨z, hz1⟩ := t_stair st (xs (i + 1))
  refine lv_aload_n hx hb d_law_751 rfl (lv_at hl 2 rfl) ?_
  refine l_arg F hS (j := 1) (by decide) (by omega) hL hl ⟨d_law_752, d_law_753, d_law_754, d_law_755, d_law_756⟩ ?_
  refine l_cX F (nA := 1) c_X11_stair_0 (by decide) ⟨by decide, g_519, g_1, by decide +kernel, g_517, g_518, (List.mem_append_right _ (List.mem_of_getElem? (i := 770) (by decide +kernel)))⟩ (vs := [xs (i + 1)]) rfl (by decide) (r := .int z) (st' := (p_stair st (xs (i + 1))).2) (fun _ => rfl) (fun R hR => ⟨st, rfl, hSW, hRX, fun M' h' => by rw [hz1]; exact hR M' h'⟩) (rest := []) d_law_757 hl.1 (by decide) hPx hPm hz hS hcs (fun Mx1 H1 locs1 hRX1 hPx1 hPm1 hz2 hS1 => ?_)
  refine lv_aload_n hx hb d_law_760 rfl (lv_at hl 1 rfl) ?_
  refine l_arg F hS1 (j := 1) (by decide) (by omega) hL hl ⟨d_law_761, d_law_762, d_law_763, d_law_764, d_law_765⟩ ?_
  refine l_cM F (nA := 1) c_X12_stair_0 (by decide) ⟨by decide, g_971, g_14, by decide +kernel, g_969, g_970, (List.mem_append_right _ (List.mem_of_getElem? (i := 1343) (by decide +kernel)))⟩ (vs := [xs (i + 1)]) rfl (by decide) (r := .int z) (st' := (p_stair st (xs (i + 1))).2) (fun _ => rfl) (fun R hR => ⟨st, rfl, hSW, hRM, fun M' h' => by rw [hz1]; exact hR M' h'⟩) (rest := [.int z]) d_law_766 hl.1 (by exact Nat.le_of_ble_eq_true rfl) hPx1 hPm1 hz2 hS1 hcs (fun Mm1 H2 locs2 hRM1 hPx2 hPm2 hz3 hS2 => ?_)
  refine lv_icmp_eq (tgt := 1166) hx hb d_law_769 (by decide) (fun _ => ?_) (fun q => absurd rfl q)
  exact T _ _ _ _ _ ⟨k_stair hSW, hRX1, hRM1, hz3, hPx2, hPm2⟩ hS2
theorem l_case_20 (F : l_Fx p s m meth c b L xs D cA ad0) (hIn : l_In D cA ad0 s.heap.size st Mx Mm H) (hS : va_S (fun q => s.heap.size ≤ q) s.heap H locs) (hi : i + 5 ≤ L) (hL : L ≤ 2560) (hl : lv_has ls 4 [(3, .int (nI i)), (2, .ref (l_aM ad0 s.heap.size 100)), (1, .ref (l_aX ad0 s.heap.size 0)), (0, .ref b)]) (hcs : cells ≤ 600000 ∧ slots ≤ 7302250) (T : ∀ (st' : fSt) (Mx' Mm' : fMem) (H' : Heap) (locs' : List Loc), l_In D cA ad0 s.heap.size st' Mx' Mm' H' → va_S (fun q => s.heap.size ≤ q) s.heap H' locs' → W p l e room_1 s m #[Value.ref b] below meth c H' locs' cells slots Q (F0 m 1166 ls [])) : W p l e room_1 s m #[Value.ref b] below meth c H locs cells slots Q (F0 m 774 ls []) := by
  obtain ⟨hx, hb, hr, hml, hown, hts, hX, hbl, hlocks, hgv⟩ := id F.1
  obtain ⟨hSW, hRX, hRM, hz, hPx, hPm⟩ := hIn
  obtain ⟨z, hz1⟩ := t_sawn st (xs (i + 1)) (xs (i + 2))
  refine lv_aload_n hx hb d_law_774 rfl (lv_at hl 2 rfl) ?_
  refine l_arg F hS (j := 1) (by decide) (by omega) hL hl ⟨d_law_775, d_law_776, d_law_777, d_law_778, d_law_779⟩ ?_
  refine l_arg F hS (j := 2) (by decide) (by omega) hL hl ⟨d_law_780, d_law_781, d_law_782, d_law_783, d_law_784⟩ ?_
  refine l_cX F (nA := 2) c_X11_sawn_0 (by decide) ⟨by decide, g_523, g_1, by decide +kernel, g_521, g_522, (List.mem_append_right _ (List.mem_of_getElem? (i := 774) (by decide +kernel)))⟩ (vs := [xs (i + 1), xs (i + 2)]) rfl (by decide) (r := .int z) (st' := (p_sawn st (xs (i + 1)) (xs (i + 2))).2) (fun _ => rfl) (fun R hR => ⟨st, rfl, hSW, hRX, fun M' h' => by rw [hz1]; exact hR M' h'⟩) (rest := []) d_law_785 hl.1 (by decide) hPx hPm hz hS hcs (fun Mx1 H1 locs1 hRX1 hPx1 hPm1 hz2 hS1 => ?_)
  refine lv_aload_n hx hb d_law_788 rfl (lv_at hl 1 rfl) ?_
  refine l_arg F hS1 (j := 1) (by decide) (by omega) hL hl ⟨d_law_789, d_law_790, d_law_791, d_law_792, d_law_793⟩ ?_
  refine l_arg F hS1 (j := 2) (by decide) (by omega) hL hl ⟨d_law_794, d_law_795, d_law_796, d_law_797, d_law_798⟩ ?_
  refine l_cM F (nA := 2) c_X12_sawn_0 (by decide) ⟨by decide, g_975, g_14, by decide +kernel, g_973, g_974, (List.mem_append_right _ (List.mem_of_getElem? (i := 1347) (by decide +kernel)))⟩ (vs := [xs (i + 1), xs (i + 2)]) rfl (by decide) (r := .int z) (st' := (p_sawn st (xs (i + 1)) (xs (i + 2))).2) (fun _ => rfl) (fun R hR => ⟨st, rfl, hSW, hRM, fun M' h' => by rw [hz1]; exact hR M' h'⟩) (rest := [.int z]) d_law_799 hl.1 (by exact Nat.le_of_ble_eq_true rfl) hPx1 hPm1 hz2 hS1 hcs (fun Mm1 H2 locs2 hRM1 hPx2 hPm2 hz3 hS2 => ?_)
  refine lv_icmp_eq (tgt := 1166) hx hb d_law_802 (by decide) (fun _ => ?_) (fun q => absurd rfl q)
  exact T _ _ _ _ _ ⟨k_sawn hSW, hRX1, hRM1, hz3, hPx2, hPm2⟩ hS2
theorem l_case_21 (F : l_Fx p s m meth c b L xs D cA ad0) (hIn : l_In D cA ad0 s.heap.size st Mx Mm H) (hS : va_S (fun q => s.heap.size ≤ q) s.heap H locs) (hi : i + 5 ≤ L) (hL : L ≤ 2560) (hl : lv_has ls 4 [(3, .int (nI i)), (2, .ref (l_aM ad0 s.heap.size 100)), (1, .ref (l_aX ad0 s.heap.size 0)), (0, .ref b)]) (hcs : cells ≤ 600000 ∧ slots ≤ 7302250) (T : ∀ (st' : fSt) (Mx' Mm' : fMem) (H' : Heap) (locs' : List Loc), l_In D cA ad0 s.heap.size st' Mx' Mm' H' → va_S (fun q => s.heap.size ≤ q) s.heap H' locs' → W p l e room_1 s m #[Value.ref b] below meth c H' locs' cells slots Q (F0 m 1166 ls [])) : W p l e room_1 s m #[Value.ref b] below meth c H locs cells slots Q (F0 m 807 ls []) := by
  obtain ⟨hx, hb, hr, hml, hown, hts, hX, hbl, hlocks, hgv⟩ := id F.1
  obtain ⟨hSW, hRX, hRM, hz, hPx, hPm⟩ := hIn
  obtain ⟨z, hz1⟩ := t_see st (xs (i + 1))
  refine lv_aload_n hx hb d_law_807 rfl (lv_at hl 2 rfl) ?_
  refine l_arg F hS (j := 1) (by decide) (by omega) hL hl ⟨d_law_808, d_law_809, d_law_810, d_law_811, d_law_812⟩ ?_
  refine l_cX F (nA := 1) c_X11_see_0 (by decide) ⟨by decide, g_533, g_1, by decide +kernel, g_531, g_532, (List.mem_append_right _ (List.mem_of_getElem? (i := 788) (by decide +kernel)))⟩ (vs := [xs (i + 1)]) rfl (by decide) (r := .int z) (st' := (p_see st (xs (i + 1))).2) (fun _ => rfl) (fun R hR => ⟨st, rfl, hSW, hRX, fun M' h' => by rw [hz1]; exact hR M' h'⟩) (rest := []) d_law_813 hl.1 (by decide) hPx hPm hz hS hcs (fun Mx1 H1 locs1 hRX1 hPx1 hPm1 hz2 hS1 => ?_)
  refine lv_aload_n hx hb d_law_816 rfl (lv_at hl 1 rfl) ?_
  refine l_arg F hS1 (j := 1) (by decide) (by omega) hL hl ⟨d_law_817, d_law_818, d_law_819, d_law_820, d_law_821⟩ ?_
  refine l_cM F (nA := 1) c_X12_see_0 (by decide) ⟨by decide, g_988, g_14, by decide +kernel, g_986, g_987, (List.mem_append_right _ (List.mem_of_getElem? (i := 1363) (by decide +kernel)))⟩ (vs := [xs (i + 1)]) rfl (by decide) (r := .int z) (st' := (p_see st (xs (i + 1))).2) (fun _ => rfl) (fun R hR => ⟨st, rfl, hSW, hRM, fun M' h' => by rw [hz1]; exact hR M' h'⟩) (rest := [.int z]) d_law_822 hl.1 (by exact Nat.le_of_ble_eq_true rfl) hPx1 hPm1 hz2 hS1 hcs (fun Mm1 H2 locs2 hRM1 hPx2 hPm2 hz3 hS2 => ?_)
  refine lv_icmp_eq (tgt := 1166) hx hb d_law_825 (by decide) (fun _ => ?_) (fun q => absurd rfl q)
  exact T _ _ _ _ _ ⟨k_see hSW, hRX1, hRM1, hz3, hPx2, hPm2⟩ hS2
theorem l_case_22 (F : l_Fx p s m meth c b L xs D cA ad0) (hIn : l_In D cA ad0 s.heap.size st Mx Mm H) (hS : va_S (fun q => s.heap.size ≤ q) s.heap H locs) (hi : i + 5 ≤ L) (hL : L ≤ 2560) (hl : lv_has ls 4 [(3, .int (nI i)), (2, .ref (l_aM ad0 s.heap.size 100)), (1, .ref (l_aX ad0 s.heap.size 0)), (0, .ref b)]) (hcs : cells ≤ 600000 ∧ slots ≤ 7302250) (T : ∀ (st' : fSt) (Mx' Mm' : fMem) (H' : Heap) (locs' : List Loc), l_In D cA ad0 s.heap.size st' Mx' Mm' H' → va_S (fun q => s.heap.size ≤ q) s.heap H' locs' → W p l e room_1 s m #[Value.ref b] below meth c H' locs' cells slots Q (F0 m 1166 ls [])) : W p l e room_1 s m #[Value.ref b] below meth c H locs cells slots Q (F0 m 830 ls []) := by
  obtain ⟨hx, hb, hr, hml, hown, hts, hX, hbl, hlocks, hgv⟩ := id F.1
  obtain ⟨hSW, hRX, hRM, hz, hPx, hPm⟩ := hIn
  obtain ⟨z, hz1⟩ := t_orders st (xs (i + 1))
  refine lv_aload_n hx hb d_law_830 rfl (lv_at hl 2 rfl) ?_
  refine l_arg F hS (j := 1) (by decide) (by omega) hL hl ⟨d_law_831, d_law_832, d_law_833, d_law_834, d_law_835⟩ ?_
  refine l_cX F (nA := 1) c_X11_orders_0 (by decide) ⟨by decide, g_537, g_1, by decide +kernel, g_535, g_536, (List.mem_append_right _ (List.mem_of_getElem? (i := 792) (by decide +kernel)))⟩ (vs := [xs (i + 1)]) rfl (by decide) (r := .int z) (st' := (p_orders st (xs (i + 1))).2) (fun _ => rfl) (fun R hR => ⟨st, rfl, hSW, hRX, fun M' h' => by rw [hz1]; exact hR M' h'⟩) (rest := []) d_law_836 hl.1 (by decide) hPx hPm hz hS hcs (fun Mx1 H1 locs1 hRX1 hPx1 hPm1 hz2 hS1 => ?_)
  refine lv_aload_n hx hb d_law_839 rfl (lv_at hl 1 rfl) ?_
  refine l_arg F hS1 (j := 1) (by decide) (by omega) hL hl ⟨d_law_840, d_law_841, d_law_842, d_law_843, d_law_844⟩ ?_
  refine l_cM F (nA := 1) c_X12_orders_0 (by decide) ⟨by decide, g_992, g_14, by decide +kernel, g_990, g_991, (List.mem_append_right _ (List.mem_of_getElem? (i := 1367) (by decide +kernel)))⟩ (vs := [xs (i + 1)]) rfl (by decide) (r := .int z) (st' := (p_orders st (xs (i + 1))).2) (fun _ => rfl) (fun R hR => ⟨st, rfl, hSW, hRM, fun M' h' => by rw [hz1]; exact hR M' h'⟩) (rest := [.int z]) d_law_845 hl.1 (by exact Nat.le_of_ble_eq_true rfl) hPx1 hPm1 hz2 hS1 hcs (fun Mm1 H2 locs2 hRM1 hPx2 hPm2 hz3 hS2 => ?_)
  refine lv_icmp_eq (tgt := 1166) hx hb d_law_848 (by decide) (fun _ => ?_) (fun q => absurd rfl q)
  exact T _ _ _ _ _ ⟨k_orders hSW, hRX1, hRM1, hz3, hPx2, hPm2⟩ hS2
theorem l_case_23 (F : l_Fx p s m meth c b L xs D cA ad0) (hIn : l_In D cA ad0 s.heap.size st Mx Mm H) (hS : va_S (fun q => s.heap.size ≤ q) s.heap H locs) (hi : i + 5 ≤ L) (hL : L ≤ 2560) (hl : lv_has ls 4 [(3, .int (nI i)), (2, .ref (l_aM ad0 s.heap.size 100)), (1, .ref (l_aX ad0 s.heap.size 0)), (0, .ref b)]) (hcs : cells ≤ 600000 ∧ slots ≤ 7302250) (T : ∀ (st' : fSt) (Mx' Mm' : fMem) (H' : Heap) (locs' : List Loc), l_In D cA ad0 s.heap.size st' Mx' Mm' H' → va_S (fun q => s.heap.size ≤ q) s.heap H' locs' → W p l e room_1 s m #[Value.ref b] below meth c H' locs' cells slots Q (F0 m 1166 ls [])) : W p l e room_1 s m #[Value.ref b] below meth c H locs cells slots Q (F0 m 853 ls []) := by
  obtain ⟨hx, hb, hr, hml, hown, hts, hX, hbl, hlocks, hgv⟩ := id F.1
  obtain ⟨hSW, hRX, hRM, hz, hPx, hPm⟩ := hIn
  obtain ⟨z, hz1⟩ := t_chance st (xs (i + 1)) (xs (i + 2))
  refine lv_aload_n hx hb d_law_853 rfl (lv_at hl 2 rfl) ?_
  refine l_arg F hS (j := 1) (by decide) (by omega) hL hl ⟨d_law_854, d_law_855, d_law_856, d_law_857, d_law_858⟩ ?_
  refine l_arg F hS (j := 2) (by decide) (by omega) hL hl ⟨d_law_859, d_law_860, d_law_861, d_law_862, d_law_863⟩ ?_
  refine l_cX F (nA := 2) c_X11_chance_0 (by decide) ⟨by decide, g_551, g_1, by decide +kernel, g_549, g_550, (List.mem_append_right _ (List.mem_of_getElem? (i := 812) (by decide +kernel)))⟩ (vs := [xs (i + 1), xs (i + 2)]) rfl (by decide) (r := .long z) (st' := (p_chance st (xs (i + 1)) (xs (i + 2))).2) (fun _ => rfl) (fun R hR => ⟨st, rfl, hSW, hRX, fun M' h' => by rw [hz1]; exact hR M' h'⟩) (rest := []) d_law_864 hl.1 (by decide) hPx hPm hz hS hcs (fun Mx1 H1 locs1 hRX1 hPx1 hPm1 hz2 hS1 => ?_)
  refine lv_aload_n hx hb d_law_867 rfl (lv_at hl 1 rfl) ?_
  refine l_arg F hS1 (j := 1) (by decide) (by omega) hL hl ⟨d_law_868, d_law_869, d_law_870, d_law_871, d_law_872⟩ ?_
  refine l_arg F hS1 (j := 2) (by decide) (by omega) hL hl ⟨d_law_873, d_law_874, d_law_875, d_law_876, d_law_877⟩ ?_
  refine l_cM F (nA := 2) c_X12_chance_0 (by decide) ⟨by decide, g_1005, g_14, by decide +kernel, g_1003, g_1004, (List.mem_append_right _ (List.mem_of_getElem? (i := 1383) (by decide +kernel)))⟩ (vs := [xs (i + 1), xs (i + 2)]) rfl (by decide) (r := .long z) (st' := (p_chance st (xs (i + 1)) (xs (i + 2))).2) (fun _ => rfl) (fun R hR => ⟨st, rfl, hSW, hRM, fun M' h' => by rw [hz1]; exact hR M' h'⟩) (rest := [.long z]) d_law_878 hl.1 (by exact Nat.le_of_ble_eq_true rfl) hPx1 hPm1 hz2 hS1 hcs (fun Mm1 H2 locs2 hRM1 hPx2 hPm2 hz3 hS2 => ?_)
  refine W.lcmp hx hb d_law_881 ?_
  rw [l_cmp_self]
  refine lv_if_eq (tgt := 1166) hx hb d_law_882 (by decide) (fun _ => ?_) (fun q => absurd rfl q)
  exact T _ _ _ _ _ ⟨k_chance hSW, hRX1, hRM1, hz3, hPx2, hPm2⟩ hS2
theorem l_case_24 (F : l_Fx p s m meth c b L xs D cA ad0) (hIn : l_In D cA ad0 s.heap.size st Mx Mm H) (hS : va_S (fun q => s.heap.size ≤ q) s.heap H locs) (hi : i + 5 ≤ L) (hL : L ≤ 2560) (hl : lv_has ls 4 [(3, .int (nI i)), (2, .ref (l_aM ad0 s.heap.size 100)), (1, .ref (l_aX ad0 s.heap.size 0)), (0, .ref b)]) (hcs : cells ≤ 600000 ∧ slots ≤ 7302250) (T : ∀ (st' : fSt) (Mx' Mm' : fMem) (H' : Heap) (locs' : List Loc), l_In D cA ad0 s.heap.size st' Mx' Mm' H' → va_S (fun q => s.heap.size ≤ q) s.heap H' locs' → W p l e room_1 s m #[Value.ref b] below meth c H' locs' cells slots Q (F0 m 1166 ls [])) : W p l e room_1 s m #[Value.ref b] below meth c H locs cells slots Q (F0 m 887 ls []) := by
  obtain ⟨hx, hb, hr, hml, hown, hts, hX, hbl, hlocks, hgv⟩ := id F.1
  obtain ⟨hSW, hRX, hRM, hz, hPx, hPm⟩ := hIn
  obtain ⟨z, hz1⟩ := t_lost st (xs (i + 1))
  refine lv_aload_n hx hb d_law_887 rfl (lv_at hl 2 rfl) ?_
  refine l_arg F hS (j := 1) (by decide) (by omega) hL hl ⟨d_law_888, d_law_889, d_law_890, d_law_891, d_law_892⟩ ?_
  refine l_cX F (nA := 1) c_X11_lost_0 (by decide) ⟨by decide, g_556, g_1, by decide +kernel, g_554, g_555, (List.mem_append_right _ (List.mem_of_getElem? (i := 817) (by decide +kernel)))⟩ (vs := [xs (i + 1)]) rfl (by decide) (r := .int z) (st' := (p_lost st (xs (i + 1))).2) (fun _ => rfl) (fun R hR => ⟨st, rfl, hSW, hRX, fun M' h' => by rw [hz1]; exact hR M' h'⟩) (rest := []) d_law_893 hl.1 (by decide) hPx hPm hz hS hcs (fun Mx1 H1 locs1 hRX1 hPx1 hPm1 hz2 hS1 => ?_)
  refine lv_aload_n hx hb d_law_896 rfl (lv_at hl 1 rfl) ?_
  refine l_arg F hS1 (j := 1) (by decide) (by omega) hL hl ⟨d_law_897, d_law_898, d_law_899, d_law_900, d_law_901⟩ ?_
  refine l_cM F (nA := 1) c_X12_lost_0 (by decide) ⟨by decide, g_1009, g_14, by decide +kernel, g_1007, g_1008, (List.mem_append_right _ (List.mem_of_getElem? (i := 1387) (by decide +kernel)))⟩ (vs := [xs (i + 1)]) rfl (by decide) (r := .int z) (st' := (p_lost st (xs (i + 1))).2) (fun _ => rfl) (fun R hR => ⟨st, rfl, hSW, hRM, fun M' h' => by rw [hz1]; exact hR M' h'⟩) (rest := [.int z]) d_law_902 hl.1 (by exact Nat.le_of_ble_eq_true rfl) hPx1 hPm1 hz2 hS1 hcs (fun Mm1 H2 locs2 hRM1 hPx2 hPm2 hz3 hS2 => ?_)
  refine lv_icmp_eq (tgt := 1166) hx hb d_law_905 (by decide) (fun _ => ?_) (fun q => absurd rfl q)
  exact T _ _ _ _ _ ⟨k_lost hSW, hRX1, hRM1, hz3, hPx2, hPm2⟩ hS2
theorem l_case_25 (F : l_Fx p s m meth c b L xs D cA ad0) (hIn : l_In D cA ad0 s.heap.size st Mx Mm H) (hS : va_S (fun q => s.heap.size ≤ q) s.heap H locs) (hi : i + 5 ≤ L) (hL : L ≤ 2560) (hl : lv_has ls 4 [(3, .int (nI i)), (2, .ref (l_aM ad0 s.heap.size 100)), (1, .ref (l_aX ad0 s.heap.size 0)), (0, .ref b)]) (hcs : cells ≤ 600000 ∧ slots ≤ 7302250) (T : ∀ (st' : fSt) (Mx' Mm' : fMem) (H' : Heap) (locs' : List Loc), l_In D cA ad0 s.heap.size st' Mx' Mm' H' → va_S (fun q => s.heap.size ≤ q) s.heap H' locs' → W p l e room_1 s m #[Value.ref b] below meth c H' locs' cells slots Q (F0 m 1166 ls [])) : W p l e room_1 s m #[Value.ref b] below meth c H locs cells slots Q (F0 m 910 ls []) := by
  obtain ⟨hx, hb, hr, hml, hown, hts, hX, hbl, hlocks, hgv⟩ := id F.1
  obtain ⟨hSW, hRX, hRM, hz, hPx, hPm⟩ := hIn
  obtain ⟨z, hz1⟩ := t_who st 
  refine lv_aload_n hx hb d_law_910 rfl (lv_at hl 2 rfl) ?_
  refine l_cX F (nA := 0) c_X11_who_0 (by decide) ⟨by decide, g_563, g_1, by decide +kernel, g_561, g_562, (List.mem_append_right _ (List.mem_of_getElem? (i := 828) (by decide +kernel)))⟩ (vs := []) rfl (by decide) (r := .int z) (st' := (p_who st ).2) (fun _ => rfl) (fun R hR => ⟨st, rfl, hSW, hRX, fun M' h' => by rw [hz1]; exact hR M' h'⟩) (rest := []) d_law_911 hl.1 (by decide) hPx hPm hz hS hcs (fun Mx1 H1 locs1 hRX1 hPx1 hPm1 hz2 hS1 => ?_)
  refine lv_aload_n hx hb d_law_914 rfl (lv_at hl 1 rfl) ?_
  refine l_cM F (nA := 0) c_X12_who_0 (by decide) ⟨by decide, g_1019, g_14, by decide +kernel, g_1017, g_1018, (List.mem_append_right _ (List.mem_of_getElem? (i := 1399) (by decide +kernel)))⟩ (vs := []) rfl (by decide) (r := .int z) (st' := (p_who st ).2) (fun _ => rfl) (fun R hR => ⟨st, rfl, hSW, hRM, fun M' h' => by rw [hz1]; exact hR M' h'⟩) (rest := [.int z]) d_law_915 hl.1 (by exact Nat.le_of_ble_eq_true rfl) hPx1 hPm1 hz2 hS1 hcs (fun Mm1 H2 locs2 hRM1 hPx2 hPm2 hz3 hS2 => ?_)
  refine lv_icmp_eq (tgt := 1166) hx hb d_law_918 (by decide) (fun _ => ?_) (fun q => absurd rfl q)
  exact T _ _ _ _ _ ⟨k_who hSW, hRX1, hRM1, hz3, hPx2, hPm2⟩ hS2
theorem l_case_26 (F : l_Fx p s m meth c b L xs D cA ad0) (hIn : l_In D cA ad0 s.heap.size st Mx Mm H) (hS : va_S (fun q => s.heap.size ≤ q) s.heap H locs) (hi : i + 5 ≤ L) (hL : L ≤ 2560) (hl : lv_has ls 4 [(3, .int (nI i)), (2, .ref (l_aM ad0 s.heap.size 100)), (1, .ref (l_aX ad0 s.heap.size 0)), (0, .ref b)]) (hcs : cells ≤ 600000 ∧ slots ≤ 7302250) (T : ∀ (st' : fSt) (Mx' Mm' : fMem) (H' : Heap) (locs' : List Loc), l_In D cA ad0 s.heap.size st' Mx' Mm' H' → va_S (fun q => s.heap.size ≤ q) s.heap H' locs' → W p l e room_1 s m #[Value.ref b] below meth c H' locs' cells slots Q (F0 m 1166 ls [])) : W p l e room_1 s m #[Value.ref b] below meth c H locs cells slots Q (F0 m 923 ls []) := by
  obtain ⟨hx, hb, hr, hml, hown, hts, hX, hbl, hlocks, hgv⟩ := id F.1
  obtain ⟨hSW, hRX, hRM, hz, hPx, hPm⟩ := hIn
  obtain ⟨z, hz1⟩ := t_likeliest st 
  refine lv_aload_n hx hb d_law_923 rfl (lv_at hl 2 rfl) ?_
  refine l_cX F (nA := 0) c_X11_likeliest_0 (by decide) ⟨by decide, g_567, g_1, by decide +kernel, g_565, g_566, (List.mem_append_right _ (List.mem_of_getElem? (i := 832) (by decide +kernel)))⟩ (vs := []) rfl (by decide) (r := .int z) (st' := (p_likeliest st ).2) (fun _ => rfl) (fun R hR => ⟨st, rfl, hSW, hRX, fun M' h' => by rw [hz1]; exact hR M' h'⟩) (rest := []) d_law_924 hl.1 (by decide) hPx hPm hz hS hcs (fun Mx1 H1 locs1 hRX1 hPx1 hPm1 hz2 hS1 => ?_)
  refine lv_aload_n hx hb d_law_927 rfl (lv_at hl 1 rfl) ?_
  refine l_cM F (nA := 0) c_X12_likeliest_0 (by decide) ⟨by decide, g_1023, g_14, by decide +kernel, g_1021, g_1022, (List.mem_append_right _ (List.mem_of_getElem? (i := 1403) (by decide +kernel)))⟩ (vs := []) rfl (by decide) (r := .int z) (st' := (p_likeliest st ).2) (fun _ => rfl) (fun R hR => ⟨st, rfl, hSW, hRM, fun M' h' => by rw [hz1]; exact hR M' h'⟩) (rest := [.int z]) d_law_928 hl.1 (by exact Nat.le_of_ble_eq_true rfl) hPx1 hPm1 hz2 hS1 hcs (fun Mm1 H2 locs2 hRM1 hPx2 hPm2 hz3 hS2 => ?_)
  refine lv_icmp_eq (tgt := 1166) hx hb d_law_931 (by decide) (fun _ => ?_) (fun q => absurd rfl q)
  exact T _ _ _ _ _ ⟨k_likeliest hSW, hRX1, hRM1, hz3, hPx2, hPm2⟩ hS2
theorem l_case_27 (F : l_Fx p s m meth c b L xs D cA ad0) (hIn : l_In D cA ad0 s.heap.size st Mx Mm H) (hS : va_S (fun q => s.heap.size ≤ q) s.heap H locs) (hi : i + 5 ≤ L) (hL : L ≤ 2560) (hl : lv_has ls 4 [(3, .int (nI i)), (2, .ref (l_aM ad0 s.heap.size 100)), (1, .ref (l_aX ad0 s.heap.size 0)), (0, .ref b)]) (hcs : cells ≤ 600000 ∧ slots ≤ 7302250) (T : ∀ (st' : fSt) (Mx' Mm' : fMem) (H' : Heap) (locs' : List Loc), l_In D cA ad0 s.heap.size st' Mx' Mm' H' → va_S (fun q => s.heap.size ≤ q) s.heap H' locs' → W p l e room_1 s m #[Value.ref b] below meth c H' locs' cells slots Q (F0 m 1166 ls [])) : W p l e room_1 s m #[Value.ref b] below meth c H locs cells slots Q (F0 m 936 ls []) := by
  obtain ⟨hx, hb, hr, hml, hown, hts, hX, hbl, hlocks, hgv⟩ := id F.1
  obtain ⟨hSW, hRX, hRM, hz, hPx, hPm⟩ := hIn
  obtain ⟨z, hz1⟩ := t_book st (xs (i + 1)) (xs (i + 2)) (xs (i + 3)) (if xs (i + 4) = 0 then 0 else 1)
  refine lv_aload_n hx hb d_law_936 rfl (lv_at hl 2 rfl) ?_
  refine l_arg F hS (j := 1) (by decide) (by omega) hL hl ⟨d_law_937, d_law_938, d_law_939, d_law_940, d_law_941⟩ ?_
  refine l_arg F hS (j := 2) (by decide) (by omega) hL hl ⟨d_law_942, d_law_943, d_law_944, d_law_945, d_law_946⟩ ?_
  refine l_arg F hS (j := 3) (by decide) (by omega) hL hl ⟨d_law_947, d_law_948, d_law_949, d_law_950, d_law_951⟩ ?_
  refine l_arg F hS (j := 4) (by decide) (by omega) hL hl ⟨d_law_952, d_law_953, d_law_954, d_law_955, d_law_956⟩ ?_
  refine l_bool (X := 964) (Y := 965) F d_law_957 (by decide) d_law_960 d_law_961 (by decide) d_law_964 rfl ?_
  refine l_cX F (nA := 4) c_X11_book_0 (by decide) ⟨by decide, g_574, g_1, by decide +kernel, g_572, g_573, (List.mem_append_right _ (List.mem_of_getElem? (i := 841) (by decide +kernel)))⟩ (vs := [xs (i + 1), xs (i + 2), xs (i + 3), (if xs (i + 4) = 0 then 0 else 1)]) rfl (by decide) (r := .int z) (st' := (p_book st (xs (i + 1)) (xs (i + 2)) (xs (i + 3)) (if xs (i + 4) = 0 then 0 else 1)).2) (fun _ => rfl) (fun R hR => ⟨st, rfl, hSW, hRX, fun M' h' => by rw [hz1]; exact hR M' h'⟩) (rest := []) d_law_965 hl.1 (by decide) hPx hPm hz hS hcs (fun Mx1 H1 locs1 hRX1 hPx1 hPm1 hz2 hS1 => ?_)
  refine lv_aload_n hx hb d_law_968 rfl (lv_at hl 1 rfl) ?_
  refine l_arg F hS1 (j := 1) (by decide) (by omega) hL hl ⟨d_law_969, d_law_970, d_law_971, d_law_972, d_law_973⟩ ?_
  refine l_arg F hS1 (j := 2) (by decide) (by omega) hL hl ⟨d_law_974, d_law_975, d_law_976, d_law_977, d_law_978⟩ ?_
  refine l_arg F hS1 (j := 3) (by decide) (by omega) hL hl ⟨d_law_979, d_law_980, d_law_981, d_law_982, d_law_983⟩ ?_
  refine l_arg F hS1 (j := 4) (by decide) (by omega) hL hl ⟨d_law_984, d_law_985, d_law_986, d_law_987, d_law_988⟩ ?_
  refine l_bool (X := 996) (Y := 997) F d_law_989 (by decide) d_law_992 d_law_993 (by decide) d_law_996 rfl ?_
  refine l_cM F (nA := 4) c_X12_book_0 (by decide) ⟨by decide, g_1027, g_14, by decide +kernel, g_1025, g_1026, (List.mem_append_right _ (List.mem_of_getElem? (i := 1407) (by decide +kernel)))⟩ (vs := [xs (i + 1), xs (i + 2), xs (i + 3), (if xs (i + 4) = 0 then 0 else 1)]) rfl (by decide) (r := .int z) (st' := (p_book st (xs (i + 1)) (xs (i + 2)) (xs (i + 3)) (if xs (i + 4) = 0 then 0 else 1)).2) (fun _ => rfl) (fun R hR => ⟨st, rfl, hSW, hRM, fun M' h' => by rw [hz1]; exact hR M' h'⟩) (rest := [.int z]) d_law_997 hl.1 (by exact Nat.le_of_ble_eq_true rfl) hPx1 hPm1 hz2 hS1 hcs (fun Mm1 H2 locs2 hRM1 hPx2 hPm2 hz3 hS2 => ?_)
  refine lv_icmp_eq (tgt := 1166) hx hb d_law_1000 (by decide) (fun _ => ?_) (fun q => absurd rfl q)
  exact T _ _ _ _ _ ⟨k_book hSW, hRX1, hRM1, hz3, hPx2, hPm2⟩ hS2
theorem l_case_28 (F : l_Fx p s m meth c b L xs D cA ad0) (hIn : l_In D cA ad0 s.heap.size st Mx Mm H) (hS : va_S (fun q => s.heap.size ≤ q) s.heap H locs) (hi : i + 5 ≤ L) (hL : L ≤ 2560) (hl : lv_has ls 4 [(3, .int (nI i)), (2, .ref (l_aM ad0 s.heap.size 100)), (1, .ref (l_aX ad0 s.heap.size 0)), (0, .ref b)]) (hcs : cells ≤ 600000 ∧ slots ≤ 7302250) (T : ∀ (st' : fSt) (Mx' Mm' : fMem) (H' : Heap) (locs' : List Loc), l_In D cA ad0 s.heap.size st' Mx' Mm' H' → va_S (fun q => s.heap.size ≤ q) s.heap H' locs' → W p l e room_1 s m #[Value.ref b] below meth c H' locs' cells slots Q (F0 m 1166 ls [])) : W p l e room_1 s m #[Value.ref b] below meth c H locs cells slots Q (F0 m 1005 ls []) := by
  obtain ⟨hx, hb, hr, hml, hown, hts, hX, hbl, hlocks, hgv⟩ := id F.1
  obtain ⟨hSW, hRX, hRM, hz, hPx, hPm⟩ := hIn
  obtain ⟨z, hz1⟩ := t_looked st 
  refine lv_aload_n hx hb d_law_1005 rfl (lv_at hl 2 rfl) ?_
  refine l_cX F (nA := 0) c_X11_looked_0 (by decide) ⟨by decide, g_581, g_1, by decide +kernel, g_579, g_580, (List.mem_append_right _ (List.mem_of_getElem? (i := 848) (by decide +kernel)))⟩ (vs := []) rfl (by decide) (r := .int z) (st' := (p_looked st ).2) (fun _ => rfl) (fun R hR => ⟨st, rfl, hSW, hRX, fun M' h' => by rw [hz1]; exact hR M' h'⟩) (rest := []) d_law_1006 hl.1 (by decide) hPx hPm hz hS hcs (fun Mx1 H1 locs1 hRX1 hPx1 hPm1 hz2 hS1 => ?_)
  refine lv_aload_n hx hb d_law_1009 rfl (lv_at hl 1 rfl) ?_
  refine l_cM F (nA := 0) c_X12_looked_0 (by decide) ⟨by decide, g_1031, g_14, by decide +kernel, g_1029, g_1030, (List.mem_append_right _ (List.mem_of_getElem? (i := 1411) (by decide +kernel)))⟩ (vs := []) rfl (by decide) (r := .int z) (st' := (p_looked st ).2) (fun _ => rfl) (fun R hR => ⟨st, rfl, hSW, hRM, fun M' h' => by rw [hz1]; exact hR M' h'⟩) (rest := [.int z]) d_law_1010 hl.1 (by exact Nat.le_of_ble_eq_true rfl) hPx1 hPm1 hz2 hS1 hcs (fun Mm1 H2 locs2 hRM1 hPx2 hPm2 hz3 hS2 => ?_)
  refine lv_icmp_eq (tgt := 1166) hx hb d_law_1013 (by decide) (fun _ => ?_) (fun q => absurd rfl q)
  exact T _ _ _ _ _ ⟨k_looked hSW, hRX1, hRM1, hz3, hPx2, hPm2⟩ hS2
theorem l_case_29 (F : l_Fx p s m meth c b L xs D cA ad0) (hIn : l_In D cA ad0 s.heap.size st Mx Mm H) (hS : va_S (fun q => s.heap.size ≤ q) s.heap H locs) (hi : i + 5 ≤ L) (hL : L ≤ 2560) (hl : lv_has ls 4 [(3, .int (nI i)), (2, .ref (l_aM ad0 s.heap.size 100)), (1, .ref (l_aX ad0 s.heap.size 0)), (0, .ref b)]) (hcs : cells ≤ 600000 ∧ slots ≤ 7302250) (T : ∀ (st' : fSt) (Mx' Mm' : fMem) (H' : Heap) (locs' : List Loc), l_In D cA ad0 s.heap.size st' Mx' Mm' H' → va_S (fun q => s.heap.size ≤ q) s.heap H' locs' → W p l e room_1 s m #[Value.ref b] below meth c H' locs' cells slots Q (F0 m 1166 ls [])) : W p l e room_1 s m #[Value.ref b] below meth c H locs cells slots Q (F0 m 1018 ls []) := by
  obtain ⟨hx, hb, hr, hml, hown, hts, hX, hbl, hlocks, hgv⟩ := id F.1
  obtain ⟨hSW, hRX, hRM, hz, hPx, hPm⟩ := hIn
  obtain ⟨z, hz1⟩ := t_act st (xs (i + 1)) (xs (i + 2)) (xs (i + 3))
  refine lv_aload_n hx hb d_law_1018 rfl (lv_at hl 2 rfl) ?_
  refine l_arg F hS (j := 1) (by decide) (by omega) hL hl ⟨d_law_1019, d_law_1020, d_law_1021, d_law_1022, d_law_1023⟩ ?_
  refine l_arg F hS (j := 2) (by decide) (by omega) hL hl ⟨d_law_1024, d_law_1025, d_law_1026, d_law_1027, d_law_1028⟩ ?_
  refine l_arg F hS (j := 3) (by decide) (by omega) hL hl ⟨d_law_1029, d_law_1030, d_law_1031, d_law_1032, d_law_1033⟩ ?_
  refine l_cX F (nA := 3) c_X11_act_0 (by decide) ⟨by decide, g_585, g_1, by decide +kernel, g_583, g_584, (List.mem_append_right _ (List.mem_of_getElem? (i := 853) (by decide +kernel)))⟩ (vs := [xs (i + 1), xs (i + 2), xs (i + 3)]) rfl (by decide) (r := .int z) (st' := (p_act st (xs (i + 1)) (xs (i + 2)) (xs (i + 3))).2) (fun _ => rfl) (fun R hR => ⟨st, rfl, hSW, hRX, fun M' h' => by rw [hz1]; exact hR M' h'⟩) (rest := []) d_law_1034 hl.1 (by decide) hPx hPm hz hS hcs (fun Mx1 H1 locs1 hRX1 hPx1 hPm1 hz2 hS1 => ?_)
  refine lv_aload_n hx hb d_law_1037 rfl (lv_at hl 1 rfl) ?_
  refine l_arg F hS1 (j := 1) (by decide) (by omega) hL hl ⟨d_law_1038, d_law_1039, d_law_1040, d_law_1041, d_law_1042⟩ ?_
  refine l_arg F hS1 (j := 2) (by decide) (by omega) hL hl ⟨d_law_1043, d_law_1044, d_law_1045, d_law_1046, d_law_1047⟩ ?_
  refine l_arg F hS1 (j := 3) (by decide) (by omega) hL hl ⟨d_law_1048, d_law_1049, d_law_1050, d_law_1051, d_law_1052⟩ ?_
  refine l_cM F (nA := 3) c_X12_act_0 (by decide) ⟨by decide, g_1035, g_14, by decide +kernel, g_1033, g_1034, (List.mem_append_right _ (List.mem_of_getElem? (i := 1415) (by decide +kernel)))⟩ (vs := [xs (i + 1), xs (i + 2), xs (i + 3)]) rfl (by decide) (r := .int z) (st' := (p_act st (xs (i + 1)) (xs (i + 2)) (xs (i + 3))).2) (fun _ => rfl) (fun R hR => ⟨st, rfl, hSW, hRM, fun M' h' => by rw [hz1]; exact hR M' h'⟩) (rest := [.int z]) d_law_1053 hl.1 (by exact Nat.le_of_ble_eq_true rfl) hPx1 hPm1 hz2 hS1 hcs (fun Mm1 H2 locs2 hRM1 hPx2 hPm2 hz3 hS2 => ?_)
  refine lv_icmp_eq (tgt := 1166) hx hb d_law_1056 (by decide) (fun _ => ?_) (fun q => absurd rfl q)
  exact T _ _ _ _ _ ⟨k_act hSW, hRX1, hRM1, hz3, hPx2, hPm2⟩ hS2
theorem l_case_30 (F : l_Fx p s m meth c b L xs D cA ad0) (hIn : l_In D cA ad0 s.heap.size st Mx Mm H) (hS : va_S (fun q => s.heap.size ≤ q) s.heap H locs) (hi : i + 5 ≤ L) (hL : L ≤ 2560) (hl : lv_has ls 4 [(3, .int (nI i)), (2, .ref (l_aM ad0 s.heap.size 100)), (1, .ref (l_aX ad0 s.heap.size 0)), (0, .ref b)]) (hcs : cells ≤ 600000 ∧ slots ≤ 7302250) (T : ∀ (st' : fSt) (Mx' Mm' : fMem) (H' : Heap) (locs' : List Loc), l_In D cA ad0 s.heap.size st' Mx' Mm' H' → va_S (fun q => s.heap.size ≤ q) s.heap H' locs' → W p l e room_1 s m #[Value.ref b] below meth c H' locs' cells slots Q (F0 m 1166 ls [])) : W p l e room_1 s m #[Value.ref b] below meth c H locs cells slots Q (F0 m 1061 ls []) := by
  obtain ⟨hx, hb, hr, hml, hown, hts, hX, hbl, hlocks, hgv⟩ := id F.1
  obtain ⟨hSW, hRX, hRM, hz, hPx, hPm⟩ := hIn
  obtain ⟨z, hz1⟩ := t_trace st (xs (i + 1))
  refine lv_aload_n hx hb d_law_1061 rfl (lv_at hl 2 rfl) ?_
  refine l_arg F hS (j := 1) (by decide) (by omega) hL hl ⟨d_law_1062, d_law_1063, d_law_1064, d_law_1065, d_law_1066⟩ ?_
  refine l_cX F (nA := 1) c_X11_trace_0 (by decide) ⟨by decide, g_598, g_1, by decide +kernel, g_596, g_597, (List.mem_append_right _ (List.mem_of_getElem? (i := 874) (by decide +kernel)))⟩ (vs := [xs (i + 1)]) rfl (by decide) (r := .int z) (st' := (p_trace st (xs (i + 1))).2) (fun _ => rfl) (fun R hR => ⟨st, rfl, hSW, hRX, fun M' h' => by rw [hz1]; exact hR M' h'⟩) (rest := []) d_law_1067 hl.1 (by decide) hPx hPm hz hS hcs (fun Mx1 H1 locs1 hRX1 hPx1 hPm1 hz2 hS1 => ?_)
  refine lv_aload_n hx hb d_law_1070 rfl (lv_at hl 1 rfl) ?_
  refine l_arg F hS1 (j := 1) (by decide) (by omega) hL hl ⟨d_law_1071, d_law_1072, d_law_1073, d_law_1074, d_law_1075⟩ ?_
  refine l_cM F (nA := 1) c_X12_trace_0 (by decide) ⟨by decide, g_1063, g_14, by decide +kernel, g_1061, g_1062, (List.mem_append_right _ (List.mem_of_getElem? (i := 1450) (by decide +kernel)))⟩ (vs := [xs (i + 1)]) rfl (by decide) (r := .int z) (st' := (p_trace st (xs (i + 1))).2) (fun _ => rfl) (fun R hR => ⟨st, rfl, hSW, hRM, fun M' h' => by rw [hz1]; exact hR M' h'⟩) (rest := [.int z]) d_law_1076 hl.1 (by exact Nat.le_of_ble_eq_true rfl) hPx1 hPm1 hz2 hS1 hcs (fun Mm1 H2 locs2 hRM1 hPx2 hPm2 hz3 hS2 => ?_)
  refine lv_icmp_eq (tgt := 1166) hx hb d_law_1079 (by decide) (fun _ => ?_) (fun q => absurd rfl q)
  exact T _ _ _ _ _ ⟨k_trace hSW, hRX1, hRM1, hz3, hPx2, hPm2⟩ hS2
theorem l_case_31 (F : l_Fx p s m meth c b L xs D cA ad0) (hIn : l_In D cA ad0 s.heap.size st Mx Mm H) (hS : va_S (fun q => s.heap.size ≤ q) s.heap H locs) (hi : i + 5 ≤ L) (hL : L ≤ 2560) (hl : lv_has ls 4 [(3, .int (nI i)), (2, .ref (l_aM ad0 s.heap.size 100)), (1, .ref (l_aX ad0 s.heap.size 0)), (0, .ref b)]) (hcs : cells ≤ 600000 ∧ slots ≤ 7302250) (T : ∀ (st' : fSt) (Mx' Mm' : fMem) (H' : Heap) (locs' : List Loc), l_In D cA ad0 s.heap.size st' Mx' Mm' H' → va_S (fun q => s.heap.size ≤ q) s.heap H' locs' → W p l e room_1 s m #[Value.ref b] below meth c H' locs' cells slots Q (F0 m 1166 ls [])) : W p l e room_1 s m #[Value.ref b] below meth c H locs cells slots Q (F0 m 1084 ls []) := by
  obtain ⟨hx, hb, hr, hml, hown, hts, hX, hbl, hlocks, hgv⟩ := id F.1
  obtain ⟨hSW, hRX, hRM, hz, hPx, hPm⟩ := hIn
  obtain ⟨z, hz1⟩ := t_as st (xs (i + 1)) (xs (i + 2))
  refine lv_aload_n hx hb d_law_1084 rfl (lv_at hl 2 rfl) ?_
  refine l_arg F hS (j := 1) (by decide) (by omega) hL hl ⟨d_law_1085, d_law_1086, d_law_1087, d_law_1088, d_law_1089⟩ ?_
  refine l_arg F hS (j := 2) (by decide) (by omega) hL hl ⟨d_law_1090, d_law_1091, d_law_1092, d_law_1093, d_law_1094⟩ ?_
  refine l_cX F (nA := 2) c_X11_as_0 (by decide) ⟨by decide, g_602, g_1, by decide +kernel, g_600, g_601, (List.mem_append_right _ (List.mem_of_getElem? (i := 878) (by decide +kernel)))⟩ (vs := [xs (i + 1), xs (i + 2)]) rfl (by decide) (r := .int z) (st' := (p_as st (xs (i + 1)) (xs (i + 2))).2) (fun _ => rfl) (fun R hR => ⟨st, rfl, hSW, hRX, fun M' h' => by rw [hz1]; exact hR M' h'⟩) (rest := []) d_law_1095 hl.1 (by decide) hPx hPm hz hS hcs (fun Mx1 H1 locs1 hRX1 hPx1 hPm1 hz2 hS1 => ?_)
  refine lv_aload_n hx hb d_law_1098 rfl (lv_at hl 1 rfl) ?_
  refine l_arg F hS1 (j := 1) (by decide) (by omega) hL hl ⟨d_law_1099, d_law_1100, d_law_1101, d_law_1102, d_law_1103⟩ ?_
  refine l_arg F hS1 (j := 2) (by decide) (by omega) hL hl ⟨d_law_1104, d_law_1105, d_law_1106, d_law_1107, d_law_1108⟩ ?_
  refine l_cM F (nA := 2) c_X12_as_0 (by decide) ⟨by decide, g_1067, g_14, by decide +kernel, g_1065, g_1066, (List.mem_append_right _ (List.mem_of_getElem? (i := 1454) (by decide +kernel)))⟩ (vs := [xs (i + 1), xs (i + 2)]) rfl (by decide) (r := .int z) (st' := (p_as st (xs (i + 1)) (xs (i + 2))).2) (fun _ => rfl) (fun R hR => ⟨st, rfl, hSW, hRM, fun M' h' => by rw [hz1]; exact hR M' h'⟩) (rest := [.int z]) d_law_1109 hl.1 (by exact Nat.le_of_ble_eq_true rfl) hPx1 hPm1 hz2 hS1 hcs (fun Mm1 H2 locs2 hRM1 hPx2 hPm2 hz3 hS2 => ?_)
  refine lv_icmp_eq (tgt := 1166) hx hb d_law_1112 (by decide) (fun _ => ?_) (fun q => absurd rfl q)
  exact T _ _ _ _ _ ⟨k_as hSW, hRX1, hRM1, hz3, hPx2, hPm2⟩ hS2
theorem l_case_32 (F : l_Fx p s m meth c b L xs D cA ad0) (hIn : l_In D cA ad0 s.heap.size st Mx Mm H) (hS : va_S (fun q => s.heap.size ≤ q) s.heap H locs) (hi : i + 5 ≤ L) (hL : L ≤ 2560) (hl : lv_has ls 4 [(3, .int (nI i)), (2, .ref (l_aM ad0 s.heap.size 100)), (1, .ref (l_aX ad0 s.heap.size 0)), (0, .ref b)]) (hcs : cells ≤ 600000 ∧ slots ≤ 7302250) (T : ∀ (st' : fSt) (Mx' Mm' : fMem) (H' : Heap) (locs' : List Loc), l_In D cA ad0 s.heap.size st' Mx' Mm' H' → va_S (fun q => s.heap.size ≤ q) s.heap H' locs' → W p l e room_1 s m #[Value.ref b] below meth c H' locs' cells slots Q (F0 m 1166 ls [])) : W p l e room_1 s m #[Value.ref b] below meth c H locs cells slots Q (F0 m 1117 ls []) := by
  obtain ⟨hx, hb, hr, hml, hown, hts, hX, hbl, hlocks, hgv⟩ := id F.1
  obtain ⟨hSW, hRX, hRM, hz, hPx, hPm⟩ := hIn
  obtain ⟨z, hz1⟩ := t_image st 
  refine lv_aload_n hx hb d_law_1117 rfl (lv_at hl 2 rfl) ?_
  refine l_cX F (nA := 0) c_X11_image_0 (by decide) ⟨by decide, g_607, g_1, by decide +kernel, g_605, g_606, (List.mem_append_right _ (List.mem_of_getElem? (i := 883) (by decide +kernel)))⟩ (vs := []) rfl (by decide) (r := .int z) (st' := (p_image st ).2) (fun _ => rfl) (fun R hR => ⟨st, rfl, hSW, hRX, fun M' h' => by rw [hz1]; exact hR M' h'⟩) (rest := []) d_law_1118 hl.1 (by decide) hPx hPm hz hS hcs (fun Mx1 H1 locs1 hRX1 hPx1 hPm1 hz2 hS1 => ?_)
  refine lv_aload_n hx hb d_law_1121 rfl (lv_at hl 1 rfl) ?_
  refine l_cM F (nA := 0) c_X12_image_0 (by decide) ⟨by decide, g_1071, g_14, by decide +kernel, g_1069, g_1070, (List.mem_append_right _ (List.mem_of_getElem? (i := 1458) (by decide +kernel)))⟩ (vs := []) rfl (by decide) (r := .int z) (st' := (p_image st ).2) (fun _ => rfl) (fun R hR => ⟨st, rfl, hSW, hRM, fun M' h' => by rw [hz1]; exact hR M' h'⟩) (rest := [.int z]) d_law_1122 hl.1 (by exact Nat.le_of_ble_eq_true rfl) hPx1 hPm1 hz2 hS1 hcs (fun Mm1 H2 locs2 hRM1 hPx2 hPm2 hz3 hS2 => ?_)
  refine lv_icmp_eq (tgt := 1166) hx hb d_law_1125 (by decide) (fun _ => ?_) (fun q => absurd rfl q)
  exact T _ _ _ _ _ ⟨k_image hSW, hRX1, hRM1, hz3, hPx2, hPm2⟩ hS2
theorem l_case_33 (F : l_Fx p s m meth c b L xs D cA ad0) (hIn : l_In D cA ad0 s.heap.size st Mx Mm H) (hS : va_S (fun q => s.heap.size ≤ q) s.heap H locs) (hi : i + 5 ≤ L) (hL : L ≤ 2560) (hl : lv_has ls 4 [(3, .int (nI i)), (2, .ref (l_aM ad0 s.heap.size 100)), (1, .ref (l_aX ad0 s.heap.size 0)), (0, .ref b)]) (hcs : cells ≤ 600000 ∧ slots ≤ 7302250) (T : ∀ (st' : fSt) (Mx' Mm' : fMem) (H' : Heap) (locs' : List Loc), l_In D cA ad0 s.heap.size st' Mx' Mm' H' → va_S (fun q => s.heap.size ≤ q) s.heap H' locs' → W p l e room_1 s m #[Value.ref b] below meth c H' locs' cells slots Q (F0 m 1166 ls [])) : W p l e room_1 s m #[Value.ref b] below meth c H locs cells slots Q (F0 m 1130 ls []) := by
  obtain ⟨hx, hb, hr, hml, hown, hts, hX, hbl, hlocks, hgv⟩ := id F.1
  obtain ⟨hSW, hRX, hRM, hz, hPx, hPm⟩ := hIn
  obtain ⟨z, hz1⟩ := t_undo st 
  refine lv_aload_n hx hb d_law_1130 rfl (lv_at hl 2 rfl) ?_
  refine l_cX F (nA := 0) c_X11_undo_0 (by decide) ⟨by decide, g_613, g_1, by decide +kernel, g_611, g_612, (List.mem_append_right _ (List.mem_of_getElem? (i := 893) (by decide +kernel)))⟩ (vs := []) rfl (by decide) (r := .int z) (st' := (p_undo st ).2) (fun _ => rfl) (fun R hR => ⟨st, rfl, hSW, hRX, fun M' h' => by rw [hz1]; exact hR M' h'⟩) (rest := []) d_law_1131 hl.1 (by decide) hPx hPm hz hS hcs (fun Mx1 H1 locs1 hRX1 hPx1 hPm1 hz2 hS1 => ?_)
  refine lv_aload_n hx hb d_law_1134 rfl (lv_at hl 1 rfl) ?_
  refine l_cM F (nA := 0) c_X12_undo_0 (by decide) ⟨by decide, g_1075, g_14, by decide +kernel, g_1073, g_1074, (List.mem_append_right _ (List.mem_of_getElem? (i := 1462) (by decide +kernel)))⟩ (vs := []) rfl (by decide) (r := .int z) (st' := (p_undo st ).2) (fun _ => rfl) (fun R hR => ⟨st, rfl, hSW, hRM, fun M' h' => by rw [hz1]; exact hR M' h'⟩) (rest := [.int z]) d_law_1135 hl.1 (by exact Nat.le_of_ble_eq_true rfl) hPx1 hPm1 hz2 hS1 hcs (fun Mm1 H2 locs2 hRM1 hPx2 hPm2 hz3 hS2 => ?_)
  refine lv_icmp_eq (tgt := 1166) hx hb d_law_1138 (by decide) (fun _ => ?_) (fun q => absurd rfl q)
  exact T _ _ _ _ _ ⟨k_undo hSW, hRX1, hRM1, hz3, hPx2, hPm2⟩ hS2
theorem l_case_34 (F : l_Fx p s m meth c b L xs D cA ad0) (hIn : l_In D cA ad0 s.heap.size st Mx Mm H) (hS : va_S (fun q => s.heap.size ≤ q) s.heap H locs) (hi : i + 5 ≤ L) (hL : L ≤ 2560) (hl : lv_has ls 4 [(3, .int (nI i)), (2, .ref (l_aM ad0 s.heap.size 100)), (1, .ref (l_aX ad0 s.heap.size 0)), (0, .ref b)]) (hcs : cells ≤ 600000 ∧ slots ≤ 7302250) (T : ∀ (st' : fSt) (Mx' Mm' : fMem) (H' : Heap) (locs' : List Loc), l_In D cA ad0 s.heap.size st' Mx' Mm' H' → va_S (fun q => s.heap.size ≤ q) s.heap H' locs' → W p l e room_1 s m #[Value.ref b] below meth c H' locs' cells slots Q (F0 m 1166 ls [])) : W p l e room_1 s m #[Value.ref b] below meth c H locs cells slots Q (F0 m 1143 ls []) := by
  obtain ⟨hx, hb, hr, hml, hown, hts, hX, hbl, hlocks, hgv⟩ := id F.1
  obtain ⟨hSW, hRX, hRM, hz, hPx, hPm⟩ := hIn
  obtain ⟨z, hz1⟩ := t_count st (xs (i + 1))
  refine lv_aload_n hx hb d_law_1143 rfl (lv_at hl 2 rfl) ?_
  refine l_arg F hS (j := 1) (by decide) (by omega) hL hl ⟨d_law_1144, d_law_1145, d_law_1146, d_law_1147, d_law_1148⟩ ?_
  refine l_cX F (nA := 1) c_X11_count_0 (by decide) ⟨by decide, g_617, g_1, by decide +kernel, g_615, g_616, (List.mem_append_right _ (List.mem_of_getElem? (i := 897) (by decide +kernel)))⟩ (vs := [xs (i + 1)]) rfl (by decide) (r := .int z) (st' := (p_count st (xs (i + 1))).2) (fun _ => rfl) (fun R hR => ⟨st, rfl, hSW, hRX, fun M' h' => by rw [hz1]; exact hR M' h'⟩) (rest := []) d_law_1149 hl.1 (by decide) hPx hPm hz hS hcs (fun Mx1 H1 locs1 hRX1 hPx1 hPm1 hz2 hS1 => ?_)
  refine lv_aload_n hx hb d_law_1152 rfl (lv_at hl 1 rfl) ?_
  refine l_arg F hS1 (j := 1) (by decide) (by omega) hL hl ⟨d_law_1153, d_law_1154, d_law_1155, d_law_1156, d_law_1157⟩ ?_
  refine l_cM F (nA := 1) c_X12_count_0 (by decide) ⟨by decide, g_1079, g_14, by decide +kernel, g_1077, g_1078, (List.mem_append_right _ (List.mem_of_getElem? (i := 1466) (by decide +kernel)))⟩ (vs := [xs (i + 1)]) rfl (by decide) (r := .int z) (st' := (p_count st (xs (i + 1))).2) (fun _ => rfl) (fun R hR => ⟨st, rfl, hSW, hRM, fun M' h' => by rw [hz1]; exact hR M' h'⟩) (rest := [.int z]) d_law_1158 hl.1 (by exact Nat.le_of_ble_eq_true rfl) hPx1 hPm1 hz2 hS1 hcs (fun Mm1 H2 locs2 hRM1 hPx2 hPm2 hz3 hS2 => ?_)
  refine lv_icmp_eq (tgt := 1166) hx hb d_law_1161 (by decide) (fun _ => ?_) (fun q => absurd rfl q)
  exact T _ _ _ _ _ ⟨k_count hSW, hRX1, hRM1, hz3, hPx2, hPm2⟩ hS2
end LWL
