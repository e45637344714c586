/-! ===== the law, from its entry ===== -/
theorem w_nf : ∀ c, c < 54 → (match f_sh c with | .inr (.inl ci) => Nat.ble (f_nf ci) 16 | _ => true) = true := by decide +kernel
theorem w_rf : ∀ c, c < 54 → ∀ k, k < 16 → (match f_RF c k with | .ref j => Nat.blt j 54 | _ => true) = true := by decide +kernel
theorem w_nfM : ∀ c, c < 17 → (match f_sh (100 + c) with | .inr (.inl ci) => Nat.ble (f_nf ci) 39 | _ => true) = true := by decide +kernel
set_option maxHeartbeats 2000000 in
theorem whole_start {p : Program} {e : Env} {s : State} {m : MethodId} {below : List Frame} {meth : Method} {c : Code} (l : Launch) (hflags : l.flags = flags0) {b L : Nat} {xs : Nat → Int32} (hL : L ≤ 2560) (C0 : lw_At p s m meth c b L xs) : W p l e room_1 s m #[Value.ref b] below meth c s.heap [] 0 0 (lw_Z below #[Value.ref b] s) (entryFrame m ([Value.ref b] : List Value).toArray 4) := by
  obtain ⟨hx, hb, hr, hml, hown, hts, hX, hbl, hlocks, hgv⟩ := id C0
  obtain ⟨D, cA, hK⟩ := f_Kof hts
  obtain ⟨ad0, hSt⟩ := f_Stof hts hgv
  have F : l_Fx p s m meth c b L xs D cA ad0 := ⟨C0, hK, hSt⟩
  have hl := lv_entry ([.ref b]) (n := 4) (Nat.le_of_ble_eq_true rfl)
  rw [lg_entry_eq]
  generalize (lg_sl ([.ref b]) ++ List.replicate (4 - (lg_sl ([.ref b])).length) Slot.unset).toArray = ls at hl ⊢
  have hl : lv_has ls 4 [(0, .ref b)] := hl
  have hS : va_S (fun q => s.heap.size ≤ q) s.heap s.heap [] := va_S.rf
  have lo1 : ∀ j, j < 54 → l_ad ad0 0 54 s.heap.size (s.heap.size + 54) j = s.heap.size + j := fun j hj => l_ad_lo (by omega) (by omega)
  have lo2 : ∀ j, j < 54 → l_aX ad0 s.heap.size j = s.heap.size + j := fun j hj => l_ad_lo (by omega) (by omega)
  have lo3 : ∀ j, 100 ≤ j → j < 117 → l_aM ad0 s.heap.size j = s.heap.size + 54 + (j - 100) := fun j _ hj => l_ad_lo (by omega) (by omega)
  have ea : l_ad ad0 0 54 s.heap.size (s.heap.size + 54) 0 = l_aX ad0 s.heap.size 0 := by rw [lo1 0 (by omega), lo2 0 (by omega)]
  refine l_new F (lo := 0) (ad := l_ad ad0 0 54 s.heap.size (s.heap.size + 54)) clX11 dvX11 rfl (List.mem_append_right _ (List.mem_of_getElem? (i := 20) (by decide +kernel))) (f_GW_in g_21) (f_GW_in g_1) d_law_0 hS ⟨by decide, by decide⟩ (lo1 0 (by omega)) (fun H1 hP1 hz1 hk1 hS1 => ?_)
  refine lv_dup hx hb d_law_3 rfl ?_
  refine l_init F (lo := 0) (mc := 53) c_iX11 (by decide) (by decide) ⟨by decide, by decide⟩ g_24 g_1 (by decide +kernel) g_23 rfl (List.mem_append_right _ (List.mem_of_getElem? (i := 22) (by decide +kernel))) (l_Ad (by omega) (by omega) (by omega) (by omega) (Or.inr ⟨rfl, by omega⟩)) (fun c hc => l_ad_st hc) (fun q hq => ?_) m_startX d_law_4 hl.1 (by exact Nat.le_of_ble_eq_true rfl) hP1 hS1 ⟨by decide, by decide +kernel⟩ (fun G' v Mx H2 locs2 hR hG hz2 hP2 hk2 hS2 => ?_)
  · rcases hq with ⟨d, -, hd, rfl⟩ | hq
    · have := lo1 d (by omega); omega
    · omega
  obtain ⟨rfl, -, hGk, hRX⟩ := hR trivial
  have hPx : f_P D cA (l_aX ad0 s.heap.size) 0 f_GX Mx H2 := by
    refine hP2.mv hG.symm (fun d _ hd => ?_) (fun d _ hd ci hsh k hk => ?_)
    · rw [lo1 d (by omega), lo2 d (by omega)]
    · have hd54 : d < 54 := by omega
      have hn := w_nf d hd54
      rw [hsh] at hn
      have hk16 : k < 16 := Nat.lt_of_lt_of_le hk (Nat.le_of_ble_eq_true hn)
      have ek := hGk d hd54 k hk16
      refine ⟨ek.symm, fun j hj => ?_⟩
      have hf := w_rf d hd54 k hk16
      rw [← ek, hj] at hf
      have hj54 : j < 54 := Nat.le_of_ble_eq_true hf
      rw [lo1 j hj54, lo2 j hj54]
  rw [ea]
  refine lv_astore_n (x := l_aX ad0 s.heap.size 0) (lv' := [(1, .ref (l_aX ad0 s.heap.size 0)), (0, .ref b)]) hx hb d_law_7 rfl hl (by decide) rfl (fun ls hl => ?_)
  refine l_new F (lo := 100) (ad := l_aM ad0 s.heap.size) clX12 dvX12 rfl (List.mem_append_right _ (List.mem_of_getElem? (i := 901) (by decide +kernel))) (f_GW_in g_619) (f_GW_in g_14) d_law_8 hS2 ⟨by decide, by decide +kernel⟩ (by rw [lo3 100 (by omega) (by omega)]; omega) (fun H3 hP3 hz3 hk3 hS3 => ?_)
  refine lv_dup hx hb d_law_11 rfl ?_
  refine l_init F (lo := 100) (mc := 16) c_iX12 (by decide) (by decide) ⟨by decide, by decide⟩ g_622 g_14 (by decide +kernel) g_621 rfl (List.mem_append_right _ (List.mem_of_getElem? (i := 903) (by decide +kernel))) (l_Ad (by omega) (by omega) (by omega) (by omega) (Or.inr ⟨by omega, by omega⟩)) (fun c hc => l_ad_st hc) (fun q hq => ?_) m_startM d_law_12 hl.1 (by exact Nat.le_of_ble_eq_true rfl) hP3 hS3 ⟨by decide, by decide +kernel⟩ (fun G' v Mm H4 locs4 hR hG hz4 hP4 hk4 hS4 => ?_)
  · rcases hq with ⟨d, hd0, hd, rfl⟩ | hq
    · have := lo3 d hd0 (by omega); omega
    · omega
  obtain ⟨rfl, -, hGk, hRM⟩ := hR trivial
  have hPm : f_P D cA (l_aM ad0 s.heap.size) 100 f_GM Mm H4 := by
    refine hP4.mv hG.symm (fun d _ hd => rfl) (fun d hd0 hd ci hsh k hk => ?_)
    obtain ⟨d, rfl⟩ : ∃ q, d = 100 + q := ⟨d - 100, by omega⟩
    have hd17 : d < 17 := by omega
    have hn := w_nfM d hd17
    rw [hsh] at hn
    have ek := hGk d hd17 k (Nat.lt_of_lt_of_le hk (Nat.le_of_ble_eq_true hn))
    exact ⟨ek.symm, fun _ _ => rfl⟩
  have hPx3 := hPx.kp (fun _ => False) (fun q hq _ => hk3 q hq) (fun _ _ _ z => z)
  have hPx4 := hPx3.kp _ hk4 (fun d _ hd hq => by
    have hd : d < 54 := hd
    have e1 := lo2 d hd
    rcases hq with ⟨d2, g0, g1, g2⟩ | hq
    · have := lo3 d2 g0 (by omega); omega
    · omega)
  refine lv_astore_n (x := l_aM ad0 s.heap.size 100) (lv' := [(2, .ref (l_aM ad0 s.heap.size 100)), (1, .ref (l_aX ad0 s.heap.size 0)), (0, .ref b)]) hx hb d_law_15 rfl hl (by decide) rfl (fun ls hl => ?_)
  refine lv_iconst (v := nI 0) hx hb d_law_16 (by decide) ?_
  refine lv_istore_n (lv' := [(3, .int (nI 0)), (2, .ref (l_aM ad0 s.heap.size 100)), (1, .ref (l_aX ad0 s.heap.size 0)), (0, .ref b)]) hx hb d_law_17 rfl hl (by decide) rfl (fun ls hl => ?_)
  exact l_lawloop F hL ⟨by decide, by decide +kernel⟩ (L + 1) 0 f_s0 Mx Mm H4 locs4 ls (Nat.zero_le L) (by omega) ⟨f_s0_ok, hRX, hRM, by omega, hPx4, hPm⟩ hS4 hl
set_option maxHeartbeats 4000000 in
theorem lw_walk (l : Launch) (hflags : l.flags = flags0) (b : Addr) (xs : List Int32) : MetFree l x (headSpec (Jvm.Cond.code x code maxLocals ret :: tables_1) room_1) (lw_P b xs) (fun _ _ _ _ _ => True) lw_Q := by
  refine MetFree.of_bodyS (code := code) (maxLocals := maxLocals) (ret := ret) (by decide) ?_ ?_
  · intro args s m h hn
    obtain ⟨meth, c, h1, h2, h3, h4, h5, h6, -, -⟩ := Cond.code_spec hn (atoms_spec (ws := Jvm.Cond.code x code maxLocals ret :: tables_1) h _ List.mem_cons_self)
    exact ⟨meth, c, h1, h2, h3, h4, h5, h6⟩
  · intro p e s m args below meth c s₁ B hml0 hP _
    obtain ⟨rfl, hx, hbd, hgv⟩ := hP
    obtain ⟨scr, harrAt, hlist, hof, hsmall⟩ := hx
    obtain ⟨hcb, hkn, -, -⟩ := State.arrayAt?_spec harrAt
    have hown : s.vm.findClass R_law = some m.cls := findClass_of_methodNamed B.named
    have hts0 : ∀ c ∈ (Jvm.Cond.code x code maxLocals ret :: tables_1), c.before #[Value.ref b] s = true := atoms_spec (ws := Jvm.Cond.code x code maxLocals ret :: tables_1) B.pre
    have hts : ∀ w ∈ lw_tbl, w.before #[Value.ref b] s = true := k2_hts_sels lw_privs (fun w hw => hts0 w (List.mem_cons_of_mem _ hw)) lw_privs_ok
    have hml : c.maxLocals = 4 := B.maxLocals_eq (hts0 _ List.mem_cons_self)
    have X₀ : Stand p l e room_1 s m #[Value.ref b] below meth c s₁ [] 0 0 := Stand.of_body B
    have hh0 : s₁.heap = s.heap := by rw [B.state]; rfl
    have hsz : scr.slots.size = xs.length := by rw [← Array.length_toList, hlist, List.length_map]
    have hval : ∀ j : Nat, j < xs.length → scr.slots[j]? = some (.int (xs.getD j 0)) := fun j hj => by
      rw [← Array.getElem?_toList, hlist]
      simp [hj]
    have hbl : b < s.heap.size := (Array.getElem?_eq_some_iff.mp hcb).1
    have hX : va_X b xs.length (fun j => xs.getD j 0) s s.heap := ⟨scr, hcb, hof, hkn, hsz, hval⟩
    have K : W p l e room_1 s m #[Value.ref b] below meth c s₁.heap [] 0 0 (lw_Z below #[Value.ref b] s) (entryFrame m ([Value.ref b] : List Value).toArray 4) := by
      rw [hh0]
      exact whole_start l hflags hbd ⟨B.exec, B.bytes, B.returns, hml, hown, hts, hX, hbl, B.notSynchronized, hgv⟩
    obtain ⟨t, a1, o, b1, b2, b3⟩ := K s₁ rfl X₀
    exact ⟨t, o, a1, b1, b2, b3⟩
theorem lw_pre_spec {args : Array Value} {s : State} (h : (Jvm.Cond.and given_1 narrow_1).before args s = true) (hr : rest_1_c.before args s = true) : ∃ (b : Addr) (xs : List Int32), lw_P b xs args s := by
  have hs := flat_of_before _ h
  have hq := flat_of_before _ hr
  have hc : (Cond.count 1).before args s = true := hs _ (by decide +kernel)
  have harr : (Cond.arrayOf (.arg 0) .int).before args s = true := hs _ (by decide +kernel)
  have hle : (Cond.le (.length (.arg 0)) (.int 2560)).before args s = true := hs _ (by decide +kernel)
  have hlen : (Cond.isInt (.length (.arg 0))).before args s = true := hq _ (by decide +kernel)
  have hall : (Cond.all (.arg 0) (.isInt (.elem (.arg 0) (.index 0)))).before args s = true := hq _ (by decide +kernel)
  obtain ⟨b, xs, hb, hx⟩ := State.ints_of_pre rfl harr hlen hall
  have hsm : xs.length < 2 ^ 31 := hx.choose_spec.2.2.2
  have hev : (Term.length (.arg 0)).eval args s none [] s = some (.int xs.length.toInt32) := hx.length_eval hb
  have hv := Cond.le_ints hev (show (Term.int 2560).eval args s none [] s = some (.int 2560) from rfl)
  have hd : xs.length.toInt32 ≤ 2560 := by
    simpa [Cond.before, Cond.holds, hv] using hle
  have hN : xs.length ≤ 2560 := (Int32.ofNat_le_ofNat hsm (by decide)).mp (show Int32.ofNat xs.length ≤ Int32.ofNat 2560 from hd)
  exact ⟨b, xs, Cond.one_arg hc (show args[0]? = some (.ref b) from hb), hx, hN, h⟩
theorem lw_comes (l : Launch) (hflags : l.flags = flags0) : Comes l x (Jvm.Cond.code x code maxLocals ret :: tables_1) room_1 (fun tb e args s => Calls_1 tb e args s ∧ rest_1 tb e args s ∧ Pre_1 tb e args s)
    (fun _ _ args s o t => lw_Q args s o t) := by
  intro p e ha hc hk s m args below hf hfit hheap happ hpre
  obtain ⟨b, xs, hP⟩ := lw_pre_spec hpre.2.2 hpre.2.1
  obtain ⟨k, o, h1, h2, h3, hQ⟩ := lw_walk l hflags b xs p e ha hc hk s m args below hf ((Spec.applies_iff_loose hf).mp happ).1 hP trivial
  exact ⟨k, o, h1, h2, h3, hQ⟩
theorem lw_frame {s t : State} {o : Outcome} {args : Array Value} (h : Framed s o t [] 600000 7302250) :
    Framed s o t (fieldLocs frame_1_writes args s ++ arrayLocs frame_1_arrays args s ++ staticLocs frame_1_statics s) 600000 7302250 := h
theorem lw_limb (L : Cond) (hL : ∀ (args : Array Value) (s t : State), L.after args s (.returned (some (.int 1))) t = true) :
    ArmFor flags0 classFile x code maxLocals ret World_1 tables_1 room_1 Calls_1 rest_1 Pre_1
      (fun tb e a s o t => postC L tb e a s o t ∧ Framed s o t (fieldLocs frame_1_writes a s ++ arrayLocs frame_1_arrays a s ++ staticLocs frame_1_statics s) 600000 7302250) := by
  intro l hflags _ _ p e ha hc hk s m args below hf hfit hheap happ hpre
  obtain ⟨k, o, h1, h2, h3, rfl, hF⟩ := lw_comes l hflags p e ha hc hk s m args below hf hfit hheap happ hpre
  exact ⟨k, _, h1, h2, h3, hL args s _, lw_frame hF⟩
theorem i_vc : Claimed_1_1 ∧ Claimed_1_2 := ⟨lw_limb limb_1_1 (fun args s t => by simp [limb_1_1, Cond.after, Cond.holds, Cond.value]), lw_limb limb_1_2 (fun args s t => Cond.after_iff.mpr (by
  first | (rw [show limb_1_2 = Cond.eq .result (.int 1) from rfl, Cond.eq_ints (x := 1) (y := 1) rfl rfl]; simp; done) | (simp [limb_1_2, Cond.value, Term.eval]; done)))⟩
