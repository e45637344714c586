/-! ===== the law's world: where the cells lie, calls of the class and of the reference ===== -/
def l_ad (ad0 : Nat → Nat) (lo n k z : Nat) : Nat → Nat := fun c => if c < 1000 then (if c < lo + n then k + (c - lo) else z + (c - (lo + n))) else ad0 c
theorem l_ad_lo {ad0 : Nat → Nat} {lo n k z c : Nat} (h : c < lo + n) (h2 : lo + n ≤ 1000) : l_ad ad0 lo n k z c = k + (c - lo) := by
  unfold l_ad
  rw [if_pos (by omega), if_pos h]
theorem l_ad_hi {ad0 : Nat → Nat} {lo n k z c : Nat} (h : lo + n ≤ c) (h2 : c < 1000) : l_ad ad0 lo n k z c = z + (c - (lo + n)) := by
  unfold l_ad
  rw [if_pos h2, if_neg (by omega)]
theorem l_ad_st {ad0 : Nat → Nat} {lo n k z c : Nat} (h : 1000 ≤ c) : l_ad ad0 lo n k z c = ad0 c := by
  unfold l_ad
  rw [if_neg (by omega)]
theorem l_Ad {ad0 : Nat → Nat} {lo n k z hi sz : Nat} (h1 : lo ≤ hi) (h2 : hi ≤ lo + n) (h3 : lo + 90 ≤ 1000) (h4 : lo + n ≤ lo + 90) (h : (hi = lo + n ∧ sz = z ∧ k + n ≤ z) ∨ (z = k + n ∧ sz = k + (hi - lo))) : f_Ad lo hi sz (l_ad ad0 lo n k z) := by
  have v : ∀ c, c < lo + 90 → l_ad ad0 lo n k z c = if c < lo + n then k + (c - lo) else z + (c - (lo + n)) := fun c hc => by
    unfold l_ad
    rw [if_pos (by omega)]
  refine ⟨fun c q1 q2 => ?_, fun c q1 q2 => ?_, fun c d q1 q2 q3 q4 e => ?_⟩
  · rw [v c q2]
    split <;> omega
  · rw [v c (by omega), if_pos (by omega)]
    omega
  · rw [v c (by omega), v d (by omega), if_pos (by omega), if_pos (by omega)] at e
    omega
theorem f_P.mv {D : va_G} {cA : Nat → ClassId} {ad ad' : Nat → Nat} {lo : Nat} {G G' : fG} {M : fMem} {H : Heap} (h : f_P D cA ad lo G M H) (hG : G'.1 = G.1) (e1 : ∀ c, lo ≤ c → c < G.1 → ad' c = ad c) (e2 : ∀ c, lo ≤ c → c < G.1 → ∀ ci, f_sh c = .inr (.inl ci) → ∀ k, k < f_nf ci → G'.2 c k = G.2 c k ∧ ∀ j, G.2 c k = .ref j → ad' j = ad j) : f_P D cA ad' lo G' M H := by
  intro c h1 h2
  rw [hG] at h2
  have hc := h c h1 h2
  have : f_cell ad' cA G' M c = f_cell ad cA G M c := by
    unfold f_cell
    split
    · rfl
    · rename_i ci hsh
      congr 2
      refine List.map_congr_left fun k hk => ?_
      obtain ⟨g1, g2⟩ := e2 c h1 h2 ci hsh k (List.mem_range.mp hk)
      unfold f_fv
      split
      · rfl
      · rfl
      · rw [g1]
        cases hv : G.2 c k with
        | ref j =>
          have := g2 j hv
          show Value.ref (ad' j) = Value.ref (ad j)
          rw [this]
        | _ => rfl
    · rfl
  rw [e1 c h1 h2, this]
  exact hc
theorem f_P.kp {D : va_G} {cA : Nat → ClassId} {ad : Nat → Nat} {lo : Nat} {G : fG} {M : fMem} {H H1 : Heap} (h : f_P D cA ad lo G M H) (A : Nat → Prop) (hk : ∀ q : Nat, q < H.size → ¬ A q → H1[q]? = H[q]?) (hA : ∀ c, lo ≤ c → c < G.1 → ¬ A (ad c)) : f_P D cA ad lo G M H1 := fun c h1 h2 => (h c h1 h2).kept (hk _ (h c h1 h2).lt (hA c h1 h2))
section LWC
variable {p : Program} {l : Launch} {e : Env} {s : State} {m : MethodId} {args : Array Value} {below : List Frame} {meth : Method} {c : Code}
theorem l_cont {D : va_G} {cA : Nat → ClassId} {ad : Nat → Nat} {lo hi' sz' mc' ms' : Nat} {R' : fR} {A0 A1 : Nat → Prop} {R0 : Room} {H : Heap} {locs : List Loc} {cells slots pc : Nat} {lsA : Array Slot} {st0 rest : List Value} {Q : State → Prop} {a : Array Value} {H0 : Heap} (hr : va_Run p l e R0 s m args below meth c H locs cells slots mc' ms' (F0 m pc lsA st0) rest (f_Q D cA ad lo hi' sz' mc' R' A1 a) A1) (hS : va_S A0 H0 H locs) (hf : ∀ q, A1 q → A0 q)
    (kk : ∀ (G' : fG) (v : Option Value) (M' : fMem) (H1 : Heap) (locs1 : List Loc), R' G' v M' → G'.1 = hi' + mc' → H1.size = sz' + mc' → f_P D cA ad lo G' M' H1 → (∀ q : Nat, q < H.size → ¬ A1 q → H1[q]? = H[q]?) → va_S A0 H0 H1 locs1 → W p l e R0 s m args below meth c H1 locs1 (cells + mc') (slots + ms') Q (F0 m (pc + 3) lsA ((v.map (f_cv ad)).toList ++ rest))) : W p l e R0 s m args below meth c H locs cells slots Q (F0 m pc lsA st0) := by
  intro T hT X
  obtain ⟨v, st₀, t, T', L, h0, X', hL, e1, e2, ⟨G', v', M', hv, hR, hG, hz, hP, hF⟩, st⟩ := hr T hT X
  cases hv
  obtain ⟨hz2, hk⟩ := hF
  rw [h0] at hz2 hk
  obtain ⟨t2, a1, b1⟩ := kk G' v' M' T'.heap (locs ++ L) hR hG (by rw [e1]; exact hz) (by rw [e1]; exact hP) (fun q h1 h2 => by rw [e1]; exact hk q h1 h2)
    ⟨Nat.le_trans hS.1 (by rw [e1]; exact hz2), fun q h1 h2 => by rw [e1, hk q (Nat.lt_of_lt_of_le h1 hS.1) (fun z => h2 (hf q z))]; exact hS.2.1 q h1 h2, fun q hq => by
      rcases List.mem_append.mp hq with h | h
      · exact hS.2.2 q h
      · exact hf _ (hL q h)⟩ T' rfl X'
  exact ⟨t2, st t2 a1, b1⟩
end LWC
theorem l_GoodIn {y : MethodName} {bt : ByteArray} {maxL : Nat} {ret : Option FieldType} (h : Cond.code y bt maxL ret ∈ f_GW) : GoodIn lw_tbl (f_ws y bt maxL ret) := by
  intro w hw
  rcases List.mem_cons.mp hw with rfl | hw
  · exact ⟨f_GW_in h, good_of_word (f_GW_good h)⟩
  · exact ⟨f_GW_in hw, good_of_word (f_GW_good hw)⟩
/-- what holds all through the law: at its entry, classes, tables -/
def l_Fx (p : Program) (s : State) (m : MethodId) (meth : Method) (c : Code) (b L : Nat) (xs : Nat → Int32) (D : va_G) (cA : Nat → ClassId) (ad0 : Nat → Nat) : Prop := lw_At p s m meth c b L xs ∧ va_K D vwCl (f_tys cA) s ∧ f_St ad0 (fun q => s.heap.size ≤ q) s s.heap
/-- the words that a call in the law wants -/
def l_ok (idx : Nat) (C : String) (y : MethodName) (bt : ByteArray) (maxL : Nat) (ret : Option FieldType) (n : Nat) : Prop := maxL ≤ 45 ∧ Cond.code y bt maxL ret ∈ f_GW ∧ Cond.initialized y.cls ∈ f_GW ∧ (y.cls ≠ "java/lang/invoke/MethodHandle" ∧ y.cls ≠ "java/lang/invoke/VarHandle" ∧ (parseMethodDescriptor y.desc).map (fun d => d.parameters.length) = some n) ∧ Cond.instanceMethod y ∈ f_GW ∧ Cond.selects C y y ∈ f_GW ∧ Cond.methodLink R_law idx y ∈ lw_tbl
theorem l_cvI (ad : Nat → Nat) (vs : List Int32) : (vs.map Value.int).map (f_cv ad) = vs.map Value.int := by
  rw [List.map_map]
  rfl
theorem l_catI : ∀ vs : List Int32, f_cats (vs.map Value.int) = vs.length := by
  intro vs
  induction vs with
  | nil => rfl
  | cons v vs ih =>
    show 1 + f_cats (vs.map Value.int) = vs.length + 1
    rw [ih]; omega
section LWD
variable {p : Program} {l : Launch} {e : Env} {s : State} {m : MethodId} {below : List Frame} {meth : Method} {c : Code} {b L : Nat} {xs : Nat → Int32} {D : va_G} {cA : Nat → ClassId} {ad0 : Nat → Nat}
/-- a call of an object's method in the law -/
theorem l_call (F : l_Fx p s m meth c b L xs D cA ad0) {lo n ci N z : Nat} {C : String} {T : u_T} {ty : Nat → FieldType} {ad : Nat → Nat} (hC : f_CL ci C T N ty) (hsh : f_sh lo = .inr (.inl ci)) (hn0 : 0 < n) (hn90 : n ≤ 90) (hAd : f_Ad lo (lo + n) z ad) (had : ∀ c, 1000 ≤ c → ad c = ad0 c) (hA : ∀ q, f_A lo (lo + n) ad z q → s.heap.size ≤ q)
    {h nA idx : Nat} {y : MethodName} {bt : ByteArray} {maxL : Nat} {ret : Option FieldType} {sp : fSp} (hCon : f_Con lo h 0 y bt maxL ret sp) (hh : h ≤ 100) (hw : l_ok idx C y bt maxL ret nA) {vs : List Int32} (hvn : vs.length = nA) (hvl : nA + 1 ≤ maxL)
    {M : fMem} {Rel : fMem → Prop} {r : Value} (hcv : f_cv ad r = r) (hsp : ∀ R : fR, (∀ M', Rel M' → R (lo + n, f_RF) (some r) M') → sp (lo + n, f_RF) (.ref lo :: vs.map Value.int) M R)
    {pc : Nat} {ls : Array Slot} {rest : List Value} {H : Heap} {locs : List Loc} {cells slots : Nat} {Q : State → Prop} (hdg : decode code pc = .ok (.invokevirtual idx, 3)) (hls : ls.size = 4) (hrest : (rest.map fun v => v.category).sum ≤ 8) (hP : f_P D cA ad lo (lo + n, f_RF) M H) (hz : H.size = z) (hS : va_S (fun q => s.heap.size ≤ q) s.heap H locs) (hcs : cells ≤ 600000 ∧ slots ≤ 7302250)
    (kk : ∀ (M' : fMem) (H1 : Heap) (locs1 : List Loc), Rel M' → f_P D cA ad lo (lo + n, f_RF) M' H1 → H1.size = z → (∀ q : Nat, q < H.size → ¬ f_A lo (lo + n) ad z q → H1[q]? = H[q]?) → va_S (fun q => s.heap.size ≤ q) s.heap H1 locs1 → W p l e room_1 s m #[Value.ref b] below meth c H1 locs1 cells slots Q (F0 m (pc + 3) ls (r :: rest))) : W p l e room_1 s m #[Value.ref b] below meth c H locs cells slots Q (F0 m pc ls ((vs.map Value.int).reverse ++ .ref (ad lo) :: rest)) := by
  obtain ⟨⟨hx, hb, hr, hml, hown, hts, hX, hbl, hlocks, hgv⟩, hK, hSt⟩ := F
  obtain ⟨w1, w2, w3, w4, w5, w6, w7⟩ := hw
  have hM := hCon l D cA ad z (lo + n, f_RF) (.ref lo :: vs.map Value.int) M (fun G' v M' => G' = (lo + n, f_RF) ∧ v = some r ∧ Rel M') (hsp _ (fun M' h' => ⟨rfl, rfl, h'⟩)) (by show 1 + f_cats (vs.map Value.int) ≤ maxL; rw [l_catI]; omega) (Nat.le_add_right lo n) (by show lo + n + 0 ≤ lo + 90; omega) hAd
  have hP0 := hP.one (c := lo) (Nat.le_refl lo) (by show lo < lo + n; omega) (f_cell_O hsh)
  refine l_cont (hi' := lo + n) (mc' := 0) (ms' := 0) (va_runV (As := (vs.map Value.int).map (f_cv ad)) (C := C) (rest := rest) ⟨hx, hb, hml, hown, hts⟩ hM ⟨callB_of nA hts (l_GoodIn w2) rfl rfl rfl (hts _ (f_GW_in w3)) (hts _ w7) w4 ⟨by show h + 1 ≤ 2048; omega, by show 8 + (maxL + 11) + 64 * h ≤ 84000; omega⟩, hts _ (f_GW_in w5), hts _ (f_GW_in w6)⟩ ⟨f_blind, va_recv (q := (C, T, N)) hK hP0 (q0 := 0) hC.1 rfl, fun U hU hW => ⟨rfl, by rw [hU]; exact hz, by rw [hU]; exact hP, va_K.moved hW.alike hK, ?_⟩⟩ rfl (by rw [List.length_map, List.length_map]; exact hvn) hls (by rw [l_cvI]) (lv_room hrest) hdg ⟨hcs.1, hcs.2⟩) hS hA (fun G' v M' H1 locs1 hR hG hz1 hP1 hk1 hS1 => ?_)
  · rw [hU]
    exact f_St.warm hW hS.2.1 hA (hSt.ad had)
  · obtain ⟨rfl, rfl, hRel⟩ := hR
    have e0 : ((some r).map (f_cv ad)).toList ++ rest = r :: rest := by show f_cv ad r :: rest = r :: rest; rw [hcv]
    rw [e0]
    exact kk M' H1 locs1 hRel hP1 hz1 hk1 hS1
end LWD
