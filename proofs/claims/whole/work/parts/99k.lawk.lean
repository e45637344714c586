/-! ===== the law: what calls answer, what stays; an argument ===== -/
theorem t_feed (s : fSt) (x : Int32) : ∃ z, (p_feed s x).1 = .int z := by
  unfold p_feed f_iv
  repeat' split
  all_goals exact ⟨_, rfl⟩
theorem t_yard (s : fSt) : ∃ z, (p_yard s ).1 = .int z := by
  unfold p_yard f_iv
  repeat' split
  all_goals exact ⟨_, rfl⟩
theorem t_breaker (s : fSt) (k v : Int32) : ∃ z, (p_breaker s k v).1 = .int z := by
  unfold p_breaker f_iv
  repeat' split
  all_goals exact ⟨_, rfl⟩
theorem t_of (s : fSt) (b w : Int32) : ∃ z, (p_of s b w).1 = .int z := by
  unfold p_of f_iv
  repeat' split
  all_goals exact ⟨_, rfl⟩
theorem t_row (s : fSt) (b k n : Int32) : ∃ z, (p_row s b k n).1 = .int z := by
  unfold p_row f_iv
  repeat' split
  all_goals exact ⟨_, rfl⟩
theorem t_told (s : fSt) (w : Int32) : ∃ z, (p_told s w).1 = .int z := by
  unfold p_told f_iv
  repeat' split
  all_goals exact ⟨_, rfl⟩
theorem t_piece (s : fSt) (k : Int32) : ∃ z, (p_piece s k).1 = .int z := by
  unfold p_piece f_iv
  repeat' split
  all_goals exact ⟨_, rfl⟩
theorem t_breaks (s : fSt) (b d : Int32) : ∃ z, (p_breaks s b d).1 = .int z := by
  unfold p_breaks f_iv
  repeat' split
  all_goals exact ⟨_, rfl⟩
theorem t_whole (s : fSt) : ∃ z, (p_whole s ).1 = .int z := ⟨_, rfl⟩
theorem t_shape (s : fSt) (w : Int32) : ∃ z, (p_shape s w).1 = .int z := by
  unfold p_shape f_iv
  repeat' split
  all_goals exact ⟨_, rfl⟩
theorem t_likely (s : fSt) (b w n p : Int32) : ∃ z, (p_likely s b w n p).1 = .long z := by
  unfold p_likely f_lv
  repeat' split
  all_goals exact ⟨_, rfl⟩
theorem t_mean (s : fSt) (b k p : Int32) : ∃ z, (p_mean s b k p).1 = .long z := by
  unfold p_mean f_lv
  repeat' split
  all_goals exact ⟨_, rfl⟩
theorem t_costs (s : fSt) (b p : Int32) : ∃ z, (p_costs s b p).1 = .long z := by
  unfold p_costs f_lv
  repeat' split
  all_goals exact ⟨_, rfl⟩
theorem t_until (s : fSt) (m p : Int32) : ∃ z, (p_until s m p).1 = .long z := by
  unfold p_until f_lv
  repeat' split
  all_goals exact ⟨_, rfl⟩
theorem t_hidden (s : fSt) (n a k p : Int32) : ∃ z, (p_hidden s n a k p).1 = .long z := by
  unfold p_hidden f_lv
  repeat' split
  all_goals exact ⟨_, rfl⟩
theorem t_box (s : fSt) (l : Int32) : ∃ z, (p_box s l).1 = .int z := by
  unfold p_box f_iv
  repeat' split
  all_goals exact ⟨_, rfl⟩
theorem t_triangles (s : fSt) : ∃ z, (p_triangles s ).1 = .int z := ⟨_, rfl⟩
theorem t_drawn (s : fSt) (p : Int32) : ∃ z, (p_drawn s p).1 = .long z := by
  unfold p_drawn f_lv
  repeat' split
  all_goals exact ⟨_, rfl⟩
theorem t_none (s : fSt) (w : Int32) : ∃ z, (p_none s w).1 = .int z := by
  unfold p_none f_iv
  repeat' split
  all_goals exact ⟨_, rfl⟩
theorem t_stair (s : fSt) (m : Int32) : ∃ z, (p_stair s m).1 = .int z := by
  unfold p_stair f_iv
  repeat' split
  all_goals exact ⟨_, rfl⟩
theorem t_sawn (s : fSt) (p k : Int32) : ∃ z, (p_sawn s p k).1 = .int z := by
  unfold p_sawn f_iv
  repeat' split
  all_goals exact ⟨_, rfl⟩
theorem t_see (s : fSt) (l : Int32) : ∃ z, (p_see s l).1 = .int z := by
  unfold p_see f_iv
  repeat' split
  all_goals exact ⟨_, rfl⟩
theorem t_orders (s : fSt) (b : Int32) : ∃ z, (p_orders s b).1 = .int z := by
  unfold p_orders f_iv
  repeat' split
  all_goals exact ⟨_, rfl⟩
theorem t_chance (s : fSt) (b p : Int32) : ∃ z, (p_chance s b p).1 = .long z := by
  unfold p_chance f_lv
  repeat' split
  all_goals exact ⟨_, rfl⟩
theorem t_lost (s : fSt) (b : Int32) : ∃ z, (p_lost s b).1 = .int z := by
  unfold p_lost f_iv
  repeat' split
  all_goals exact ⟨_, rfl⟩
theorem t_who (s : fSt) : ∃ z, (p_who s ).1 = .int z := ⟨_, rfl⟩
theorem t_likeliest (s : fSt) : ∃ z, (p_likeliest s ).1 = .int z := ⟨_, rfl⟩
theorem t_book (s : fSt) (a b c d : Int32) : ∃ z, (p_book s a b c d).1 = .int z := by
  unfold p_book f_iv
  repeat' split
  all_goals exact ⟨_, rfl⟩
theorem t_looked (s : fSt) : ∃ z, (p_looked s ).1 = .int z := ⟨_, rfl⟩
theorem t_act (s : fSt) (b a x : Int32) : ∃ z, (p_act s b a x).1 = .int z := by
  unfold p_act f_iv
  repeat' split
  all_goals exact ⟨_, rfl⟩
theorem t_trace (s : fSt) (i : Int32) : ∃ z, (p_trace s i).1 = .int z := by
  unfold p_trace f_iv
  repeat' split
  all_goals exact ⟨_, rfl⟩
theorem t_as (s : fSt) (b k : Int32) : ∃ z, (p_as s b k).1 = .int z := by
  unfold p_as f_iv
  repeat' split
  all_goals exact ⟨_, rfl⟩
theorem t_image (s : fSt) : ∃ z, (p_image s ).1 = .int z := ⟨_, rfl⟩
theorem t_undo (s : fSt) : ∃ z, (p_undo s).1 = .int z := by
  unfold p_undo
  split <;> exact ⟨_, rfl⟩
theorem t_count (s : fSt) (w : Int32) : ∃ z, (p_count s w).1 = .int z := by
  unfold p_count f_iv
  repeat' split
  all_goals exact ⟨_, rfl⟩
theorem k_of {s : fSt} {b w : Int32} (h : f_SW s) : f_SW (p_of s b w).2 := by
  unfold p_of f_iv
  repeat' split
  all_goals exact h
theorem k_told {s : fSt} {w : Int32} (h : f_SW s) : f_SW (p_told s w).2 := by
  unfold p_told f_iv
  repeat' split
  all_goals exact h
theorem k_piece {s : fSt} {k : Int32} (h : f_SW s) : f_SW (p_piece s k).2 := by
  unfold p_piece f_iv
  repeat' split
  all_goals exact h
theorem k_shape {s : fSt} {w : Int32} (h : f_SW s) : f_SW (p_shape s w).2 := by
  unfold p_shape f_iv
  repeat' split
  all_goals exact h
theorem k_likely {s : fSt} {b w n p : Int32} (h : f_SW s) : f_SW (p_likely s b w n p).2 := by
  unfold p_likely f_lv
  repeat' split
  all_goals exact h
theorem k_mean {s : fSt} {b k p : Int32} (h : f_SW s) : f_SW (p_mean s b k p).2 := by
  unfold p_mean f_lv
  repeat' split
  all_goals exact h
theorem k_costs {s : fSt} {b p : Int32} (h : f_SW s) : f_SW (p_costs s b p).2 := by
  unfold p_costs f_lv
  repeat' split
  all_goals exact h
theorem k_until {s : fSt} {m p : Int32} (h : f_SW s) : f_SW (p_until s m p).2 := by
  unfold p_until f_lv
  repeat' split
  all_goals exact h
theorem k_hidden {s : fSt} {n a k p : Int32} (h : f_SW s) : f_SW (p_hidden s n a k p).2 := by
  unfold p_hidden f_lv
  repeat' split
  all_goals exact h
theorem k_triangles {s : fSt} (h : f_SW s) : f_SW (p_triangles s ).2 := h
theorem k_drawn {s : fSt} {p : Int32} (h : f_SW s) : f_SW (p_drawn s p).2 := by
  unfold p_drawn f_lv
  repeat' split
  all_goals exact h
theorem k_none {s : fSt} {w : Int32} (h : f_SW s) : f_SW (p_none s w).2 := by
  unfold p_none f_iv
  repeat' split
  all_goals exact h
theorem k_stair {s : fSt} {m : Int32} (h : f_SW s) : f_SW (p_stair s m).2 := by
  unfold p_stair f_iv
  repeat' split
  all_goals exact h
theorem k_sawn {s : fSt} {p k : Int32} (h : f_SW s) : f_SW (p_sawn s p k).2 := by
  unfold p_sawn f_iv
  repeat' split
  all_goals exact h
theorem k_orders {s : fSt} {b : Int32} (h : f_SW s) : f_SW (p_orders s b).2 := by
  unfold p_orders f_iv
  repeat' split
  all_goals exact h
theorem k_chance {s : fSt} {b p : Int32} (h : f_SW s) : f_SW (p_chance s b p).2 := by
  unfold p_chance f_lv
  repeat' split
  all_goals exact h
theorem k_lost {s : fSt} {b : Int32} (h : f_SW s) : f_SW (p_lost s b).2 := by
  unfold p_lost f_iv
  repeat' split
  all_goals exact h
theorem k_who {s : fSt} (h : f_SW s) : f_SW (p_who s ).2 := h
theorem k_likeliest {s : fSt} (h : f_SW s) : f_SW (p_likeliest s ).2 := h
theorem k_looked {s : fSt} (h : f_SW s) : f_SW (p_looked s ).2 := h
theorem k_trace {s : fSt} {i : Int32} (h : f_SW s) : f_SW (p_trace s i).2 := by
  unfold p_trace f_iv
  repeat' split
  all_goals exact h
theorem k_as {s : fSt} {b k : Int32} (h : f_SW s) : f_SW (p_as s b k).2 := by
  unfold p_as f_iv
  repeat' split
  all_goals exact h
theorem k_count {s : fSt} {w : Int32} (h : f_SW s) : f_SW (p_count s w).2 := by
  unfold p_count f_iv
  repeat' split
  all_goals exact h
def l_aX (ad0 : Nat → Nat) (n0 : Nat) : Nat → Nat := l_ad ad0 0 54 n0 (n0 + 71)
def l_aM (ad0 : Nat → Nat) (n0 : Nat) : Nat → Nat := l_ad ad0 100 17 (n0 + 54) (n0 + 71)
/-- the class and the reference hold the same state -/
def l_In (D : va_G) (cA : Nat → ClassId) (ad0 : Nat → Nat) (n0 : Nat) (st : fSt) (Mx Mm : fMem) (H : Heap) : Prop := f_SW st ∧ f_RX st Mx ∧ f_RM st Mm ∧ H.size = n0 + 71 ∧ f_P D cA (l_aX ad0 n0) 0 f_GX Mx H ∧ f_P D cA (l_aM ad0 n0) 100 f_GM Mm H
theorem l_aXA {ad0 : Nat → Nat} {n0 q : Nat} (h : f_A 0 54 (l_aX ad0 n0) (n0 + 71) q) : (n0 ≤ q ∧ q < n0 + 54) ∨ n0 + 71 ≤ q := by
  rcases h with ⟨c, -, hc, rfl⟩ | h
  · refine Or.inl ?_
    have : l_aX ad0 n0 c = n0 + (c - 0) := l_ad_lo (by omega) (by omega)
    omega
  · exact Or.inr h
theorem l_aMA {ad0 : Nat → Nat} {n0 q : Nat} (h : f_A 100 117 (l_aM ad0 n0) (n0 + 71) q) : n0 + 54 ≤ q := by
  rcases h with ⟨c, hc0, hc, rfl⟩ | h
  · have : l_aM ad0 n0 c = n0 + 54 + (c - 100) := l_ad_lo (by omega) (by omega)
    omega
  · omega
section LWK
variable {p : Program} {l : Launch} {e : Env} {s : State} {m : MethodId} {below : List Frame} {meth : Method} {c : Code} {b L : Nat} {xs : Nat → Int32} {D : va_G} {cA : Nat → ClassId} {ad0 : Nat → Nat}
theorem l_cX (F : l_Fx p s m meth c b L xs D cA ad0) {h nA idx : Nat} {y : MethodName} {bt : ByteArray} {maxL : Nat} {ret : Option FieldType} {sp : fSp} (hCon : f_Con 0 h 0 y bt maxL ret sp) (hh : h ≤ 100) (hw : l_ok idx RX11 y bt maxL ret nA) {vs : List Int32} (hvn : vs.length = nA) (hvl : nA + 1 ≤ maxL) {st' : fSt} {Mx Mm : fMem} {r : Value} (hcv : ∀ ad, f_cv ad r = r) (hsp : ∀ R : fR, (∀ M', f_RX st' M' → R f_GX (some r) M') → sp f_GX (.ref 0 :: vs.map Value.int) Mx R)
    {pc : Nat} {ls : Array Slot} {rest : List Value} {H : Heap} {locs : List Loc} {cells slots : Nat} {Q : State → Prop} (hdg : decode code pc = .ok (.invokevirtual idx, 3)) (hls : ls.size = 4) (hrest : (rest.map fun v => v.category).sum ≤ 8) (hPx : f_P D cA (l_aX ad0 s.heap.size) 0 f_GX Mx H) (hPm : f_P D cA (l_aM ad0 s.heap.size) 100 f_GM Mm H) (hz : H.size = s.heap.size + 71) (hS : va_S (fun q => s.heap.size ≤ q) s.heap H locs) (hcs : cells ≤ 600000 ∧ slots ≤ 7302250)
    (kk : ∀ (M' : fMem) (H1 : Heap) (locs1 : List Loc), f_RX st' M' → f_P D cA (l_aX ad0 s.heap.size) 0 f_GX M' H1 → f_P D cA (l_aM ad0 s.heap.size) 100 f_GM Mm H1 → H1.size = s.heap.size + 71 → va_S (fun q => s.heap.size ≤ q) s.heap H1 locs1 → W p l e room_1 s m #[Value.ref b] below meth c H1 locs1 cells slots Q (F0 m (pc + 3) ls (r :: rest))) : W p l e room_1 s m #[Value.ref b] below meth c H locs cells slots Q (F0 m pc ls ((vs.map Value.int).reverse ++ .ref (l_aX ad0 s.heap.size 0) :: rest)) :=
  l_call F (lo := 0) (n := 54) (z := s.heap.size + 71) (ad := l_aX ad0 s.heap.size) clX11 rfl (by decide) (by decide) (l_Ad (by omega) (by omega) (by omega) (by omega) (Or.inl ⟨rfl, rfl, by omega⟩)) (fun c hc => l_ad_st hc) (fun q hq => (l_aXA hq).elim (fun z => z.1) (fun z => by omega)) hCon hh hw hvn hvl (Rel := fun M' => f_RX st' M') (hcv _) hsp hdg hls hrest hPx hz hS hcs (fun M' H1 locs1 g1 g2 g3 g4 g5 => kk M' H1 locs1 g1 g2 (hPm.kp _ g4 (fun d h1 h2 hq => by
    have e1 : l_aM ad0 s.heap.size d = s.heap.size + 54 + (d - 100) := l_ad_lo (by show d < 117; exact h2) (by omega)
    have h2 : d < 117 := h2
    rcases l_aXA hq with z | z
    · rw [e1] at z; omega
    · rw [e1] at z; omega)) g3 g5)
theorem l_cM (F : l_Fx p s m meth c b L xs D cA ad0) {h nA idx : Nat} {y : MethodName} {bt : ByteArray} {maxL : Nat} {ret : Option FieldType} {sp : fSp} (hCon : f_Con 100 h 0 y bt maxL ret sp) (hh : h ≤ 100) (hw : l_ok idx RX12 y bt maxL ret nA) {vs : List Int32} (hvn : vs.length = nA) (hvl : nA + 1 ≤ maxL) {st' : fSt} {Mx Mm : fMem} {r : Value} (hcv : ∀ ad, f_cv ad r = r) (hsp : ∀ R : fR, (∀ M', f_RM st' M' → R f_GM (some r) M') → sp f_GM (.ref 100 :: vs.map Value.int) Mm R)
    {pc : Nat} {ls : Array Slot} {rest : List Value} {H : Heap} {locs : List Loc} {cells slots : Nat} {Q : State → Prop} (hdg : decode code pc = .ok (.invokevirtual idx, 3)) (hls : ls.size = 4) (hrest : (rest.map fun v => v.category).sum ≤ 8) (hPx : f_P D cA (l_aX ad0 s.heap.size) 0 f_GX Mx H) (hPm : f_P D cA (l_aM ad0 s.heap.size) 100 f_GM Mm H) (hz : H.size = s.heap.size + 71) (hS : va_S (fun q => s.heap.size ≤ q) s.heap H locs) (hcs : cells ≤ 600000 ∧ slots ≤ 7302250)
    (kk : ∀ (M' : fMem) (H1 : Heap) (locs1 : List Loc), f_RM st' M' → f_P D cA (l_aX ad0 s.heap.size) 0 f_GX Mx H1 → f_P D cA (l_aM ad0 s.heap.size) 100 f_GM M' H1 → H1.size = s.heap.size + 71 → va_S (fun q => s.heap.size ≤ q) s.heap H1 locs1 → W p l e room_1 s m #[Value.ref b] below meth c H1 locs1 cells slots Q (F0 m (pc + 3) ls (r :: rest))) : W p l e room_1 s m #[Value.ref b] below meth c H locs cells slots Q (F0 m pc ls ((vs.map Value.int).reverse ++ .ref (l_aM ad0 s.heap.size 100) :: rest)) :=
  l_call F (lo := 100) (n := 17) (z := s.heap.size + 71) (ad := l_aM ad0 s.heap.size) clX12 rfl (by decide) (by decide) (l_Ad (by omega) (by omega) (by omega) (by omega) (Or.inl ⟨rfl, rfl, by omega⟩)) (fun c hc => l_ad_st hc) (fun q hq => by have := l_aMA hq; omega) hCon hh hw hvn hvl (Rel := fun M' => f_RM st' M') (hcv _) hsp hdg hls hrest hPm hz hS hcs (fun M' H1 locs1 g1 g2 g3 g4 g5 => kk M' H1 locs1 g1 (hPx.kp _ g4 (fun d h1 h2 hq => by
    have e1 : l_aX ad0 s.heap.size d = s.heap.size + (d - 0) := l_ad_lo (by show d < 54; exact h2) (by omega)
    have h2 : d < 54 := h2
    have z := l_aMA hq
    rw [e1] at z
    omega)) g2 g3 g5)
theorem l_arg (F : l_Fx p s m meth c b L xs D cA ad0) {H : Heap} {locs : List Loc} (hS : va_S (fun q => s.heap.size ≤ q) s.heap H locs) {i j pc : Nat} {n : Int} (hv : Int32.ofInt n = nI j) (hi : i + j < L) (hL : L ≤ 2560) {ls : Array Slot} {q1 q2 : Nat} (hl : lv_has ls 4 [(3, .int (nI i)), (2, .ref q2), (1, .ref q1), (0, .ref b)]) (hd : decode code pc = .ok (.aload_n 0, 1) ∧ decode code (pc + 1) = .ok (.iload_n 3, 1) ∧ decode code (pc + 2) = .ok (.iconst n, 1) ∧ decode code (pc + 3) = .ok (.iadd, 1) ∧ decode code (pc + 4) = .ok (.iaload, 1)) {rest : List Value} {cells slots : Nat} {Q : State → Prop}
    (kk : W p l e room_1 s m #[Value.ref b] below meth c H locs cells slots Q (F0 m (pc + 5) ls (.int (xs (i + j)) :: rest))) : W p l e room_1 s m #[Value.ref b] below meth c H locs cells slots Q (F0 m pc ls rest) := by
  obtain ⟨hx, hb, hr, hml, hown, hts, hX, hbl, hlocks, hgv⟩ := F.1
  obtain ⟨d0, d1, d2, d3, d4⟩ := hd
  refine lv_aload_n hx hb d0 rfl (lv_at hl 3 rfl) ?_
  refine lv_iload_n hx hb d1 rfl (lv_at hl 0 rfl) ?_
  refine lv_iconst hx hb d2 hv ?_
  refine lv_iadd hx hb d3 ?_
  rw [nI_add]
  refine va_sld hx hb hX hbl (Nat.not_le.mpr hbl) hS (vp_in_nI hi (by omega)) d4 ?_
  rw [nI_clamp (by omega)]
  exact kk
theorem l_bool (F : l_Fx p s m meth c b L xs D cA ad0) {H : Heap} {locs : List Loc} {x : Int32} {pc X Y : Nat} {o1 o2 : Int} (d1 : decode code pc = .ok (.ifCond .eq o1, 3)) (t1 : (pc : Int) + o1 = (X : Int)) (d2 : decode code (pc + 3) = .ok (.iconst 1, 1)) (d3 : decode code (pc + 3 + 1) = .ok (.goto o2, 3)) (t2 : ((pc + 3 + 1 : Nat) : Int) + o2 = (Y : Int)) (d4 : decode code X = .ok (.iconst 0, 1)) (hY : X + 1 = Y) {ls : Array Slot} {rest : List Value} {cells slots : Nat} {Q : State → Prop}
    (kk : W p l e room_1 s m #[Value.ref b] below meth c H locs cells slots Q (F0 m Y ls (.int (if x = 0 then 0 else 1) :: rest))) : W p l e room_1 s m #[Value.ref b] below meth c H locs cells slots Q (F0 m pc ls (.int x :: rest)) := by
  obtain ⟨hx, hb, hr, hml, hown, hts, hX, hbl, hlocks, hgv⟩ := F.1
  refine lv_if_eq hx hb d1 t1 (fun q => ?_) (fun q => ?_)
  · rw [if_pos q] at kk
    subst hY
    exact lv_iconst hx hb d4 (by decide) kk
  · rw [if_neg q] at kk
    exact lv_iconst hx hb d2 (by decide) (lv_goto hx hb d3 t2 kk)
end LWK
