/-! ===== THE FRAME, cells and calls ===== -/
theorem f_own_spec {lo c : Nat} {G : fG} (h : f_own lo G c = true) : lo ≤ c ∧ c < G.1 := by
  simp only [f_own, Bool.and_eq_true] at h
  exact ⟨Nat.le_of_ble_eq_true h.1, Nat.le_of_ble_eq_true h.2⟩
theorem f_isO_spec {lo c ci : Nat} {G : fG} (h : f_isO lo G c ci = true) : lo ≤ c ∧ c < G.1 ∧ f_sh c = .inr (.inl ci) := by
  simp only [f_isO, Bool.and_eq_true] at h
  obtain ⟨h1, h2⟩ := h
  obtain ⟨a, b⟩ := f_own_spec h1
  refine ⟨a, b, ?_⟩
  split at h2
  · rename_i j hj
    rw [hj, Nat.eq_of_beq_eq_true h2]
  · cases h2
theorem f_arW_spec {lo c k n : Nat} {G : fG} (h : f_arW lo G c k = some n) : lo ≤ c ∧ c < G.1 ∧ f_sh c = .inl (k, n) := by
  unfold f_arW at h
  split at h
  · rename_i j n' hj
    cases hb : (f_own lo G c && Nat.beq j k) with
    | false => rw [hb] at h; cases h
    | true =>
      rw [hb] at h
      simp only [Bool.and_eq_true] at hb
      obtain ⟨a, b⟩ := f_own_spec hb.1
      cases h
      refine ⟨a, b, ?_⟩
      rw [hj, Nat.eq_of_beq_eq_true hb.2]
  · cases h
theorem f_cell_O {ad : Nat → Nat} {cA : Nat → ClassId} {G : fG} {M : fMem} {c ci : Nat} (h : f_sh c = .inr (.inl ci)) : f_cell ad cA G M c = .inr (ci, (List.range (f_nf ci)).map (fun k => f_fv ad G M c k (f_fk ci k))) := by
  unfold f_cell; rw [h]
theorem f_cell_A0 {ad : Nat → Nat} {cA : Nat → ClassId} {G : fG} {M : fMem} {c n : Nat} (h : f_sh c = .inl (0, n)) : f_cell ad cA G M c = .inl (cA 0, n, .inl (M.1 c)) := by
  unfold f_cell; rw [h]; rfl
theorem f_cell_A1 {ad : Nat → Nat} {cA : Nat → ClassId} {G : fG} {M : fMem} {c n : Nat} (h : f_sh c = .inl (1, n)) : f_cell ad cA G M c = .inl (cA 1, n, .inr (.inl (M.2 c))) := by
  unfold f_cell; rw [h]; rfl
theorem f_cell_A2 {ad : Nat → Nat} {cA : Nat → ClassId} {G : fG} {M : fMem} {c n : Nat} (h : f_sh c = .inl (2, n)) : f_cell ad cA G M c = .inl (cA 2, n, .inl (M.1 c)) := by
  unfold f_cell; rw [h]; rfl
theorem f_cell_same {ad : Nat → Nat} {cA : Nat → ClassId} {G G' : fG} {M M' : fMem} {c : Nat} (h1 : M'.1 c = M.1 c) (h2 : M'.2 c = M.2 c) (h3 : G'.2 c = G.2 c) : f_cell ad cA G' M' c = f_cell ad cA G M c := by
  unfold f_cell
  split
  · rw [h1, h2]
  · congr 2
    refine List.map_congr_left fun k _ => ?_
    unfold f_fv
    split
    · rw [h1]
    · rw [h2]
    · rw [h3]
  · rfl
theorem f_range_get {α : Type} (g : Nat → α) {k n : Nat} (h : k < n) : ((List.range n).map g)[k]? = some (g k) := by
  rw [List.getElem?_map, List.getElem?_range h]; rfl
theorem f_range_set {α : Type} (g g' : Nat → α) {k n : Nat} (h : ∀ j, j ≠ k → g' j = g j) : ((List.range n).map g).set k (g' k) = (List.range n).map g' := by
  refine List.ext_getElem? fun j => ?_
  rw [List.getElem?_set, List.getElem?_map, List.getElem?_map]
  by_cases hj : k = j
  · subst hj
    by_cases hn : k < n
    · rw [if_pos rfl, if_pos (by simpa using hn), List.getElem?_range hn]; rfl
    · rw [if_pos rfl, if_neg (by simpa using hn), List.getElem?_eq_none (by simpa using hn)]; rfl
  · rw [if_neg hj]
    cases hr : (List.range n)[j]? with
    | none => rfl
    | some i =>
      obtain ⟨hlt, hi⟩ := List.getElem?_eq_some_iff.mp hr
      simp only [List.getElem_range] at hi
      subst hi
      simp [h j (Ne.symm hj)]
theorem f_P.one {D : va_G} {cA : Nat → ClassId} {ad : Nat → Nat} {lo c : Nat} {G : fG} {M : fMem} {H : Heap} (hP : f_P D cA ad lo G M H) (h1 : lo ≤ c) (h2 : c < G.1) {e0 : va_E} (he : f_cell ad cA G M c = e0) : va_P D vwCl [(ad c, e0)] H := by
  intro k q hq
  cases k with
  | zero => cases hq; rw [← he]; exact hP c h1 h2
  | succ k => simp at hq
theorem f_P.set {D : va_G} {cA : Nat → ClassId} {ad : Nat → Nat} {lo c : Nat} {G G' : fG} {M M' : fMem} {H H' : Heap} (hP : f_P D cA ad lo G M H) (hG : G'.1 = G.1) (hinj : ∀ d, lo ≤ d → d < G.1 → d ≠ c → ad d ≠ ad c) (hc : va_at D vwCl (ad c, f_cell ad cA G' M' c) H') (ho : ∀ d, d ≠ c → f_cell ad cA G' M' d = f_cell ad cA G M d) (hq : ∀ q : Nat, q ≠ ad c → H'[q]? = H[q]?) : f_P D cA ad lo G' M' H' := by
  intro d h1 h2
  rw [hG] at h2
  by_cases hd : d = c
  · subst hd; exact hc
  · rw [ho d hd]
    exact (hP d h1 h2).kept (hq _ (hinj d h1 h2 hd))
theorem f_up_ne {f : Nat → Nat → Int32} {c k d : Nat} {v : Int32} (h : d ≠ c) : f_up f c k v d = f d := by
  funext b; simp [f_up, h]
theorem f_upL_ne {f : Nat → Nat → Int64} {c k d : Nat} {v : Int64} (h : d ≠ c) : f_upL f c k v d = f d := by
  funext b; simp [f_upL, h]
theorem f_upR_ne {f : Nat → Nat → Value} {c k d : Nat} {v : Value} (h : d ≠ c) : f_upR f c k v d = f d := by
  funext b; simp [f_upR, h]
theorem f_up_eq {f : Nat → Nat → Int32} {c k : Nat} {v : Int32} : f_up f c k v c = upd (f c) k v := by
  funext b; simp [f_up, upd]
theorem f_upL_eq {f : Nat → Nat → Int64} {c k : Nat} {v : Int64} : f_upL f c k v c = vp_updL (f c) k v := by
  funext b; simp [f_upL, vp_updL]
theorem f_Ad.inj {lo hi sz n : Nat} {ad : Nat → Nat} (h : f_Ad lo hi sz ad) (h1 : lo ≤ hi) (hn : hi ≤ n) (hb : n ≤ lo + 90) {c d : Nat} (hc : lo ≤ c) (hc2 : c < n) (hd : lo ≤ d) (hd2 : d < n) (hne : d ≠ c) : ad d ≠ ad c := fun e => hne ((h.grow h1 hn hb).2.2 d c hd hd2 hc hc2 e)
/-- a field's link, its own or a nest mate's -/
def f_FL (own : String) (index : Nat) (ref n d : String) : Prop := Cond.fieldLink own index ref n d ∈ f_GW ∨ ∃ host, (own, index, ref, n, d, host) ∈ f_NWf
/-- a class of the list -/
def f_CL (ci : Nat) (C : String) (T : u_T) (N : Nat) (ty : Nat → FieldType) : Prop := vwCl[ci]? = some (C, T, N) ∧ f_nf ci = N ∧ (∀ w ∈ u_ws C T N, w ∈ f_GW) ∧ (∀ k, k < N → parseFieldDescriptor (T k).2.2.1 = some (ty k)) ∧ ∀ a, a < N → ∀ b, b < N → a ≠ b → (T a).2.1 ≠ (T b).2.1
section FM
variable {p : Program} {l : Launch} {e : Env} {s : State} {m : MethodId} {args : Array Value} {below : List Frame} {meth : Method} {c : Code} {own : String} {y : MethodName} {bt : ByteArray} {maxL : Nat} {ret : Option FieldType} {lo hi h mc sz : Nat} {D : va_G} {cA : Nat → ClassId} {ad : Nat → Nat} {R : fR}
theorem f_B.ts (hB : f_B p s m args meth c own y bt maxL ret lo hi mc sz D cA ad) {w : Cond} (hw : w ∈ f_GW) : w.before args s = true := hB.2.2.2.2.2.1 w (List.mem_cons_of_mem _ hw)
theorem f_B.K (hB : f_B p s m args meth c own y bt maxL ret lo hi mc sz D cA ad) : va_K D vwCl (f_tys cA) s := hB.2.2.2.2.2.2.2.2.2.1
theorem f_B.St (hB : f_B p s m args meth c own y bt maxL ret lo hi mc sz D cA ad) : f_St ad (f_A lo hi ad sz) s s.heap := hB.2.2.2.2.2.2.2.2.2.2.1
theorem f_B.Ad (hB : f_B p s m args meth c own y bt maxL ret lo hi mc sz D cA ad) : f_Ad lo hi sz ad := hB.2.2.2.2.2.2.2.2.2.2.2.1
theorem f_B.hlo (hB : f_B p s m args meth c own y bt maxL ret lo hi mc sz D cA ad) : lo ≤ hi := hB.2.2.2.2.2.2.2.2.2.2.2.2.1
theorem f_B.lim (hB : f_B p s m args meth c own y bt maxL ret lo hi mc sz D cA ad) : hi + mc ≤ lo + 90 := hB.2.2.2.2.2.2.2.2.2.2.2.2.2
theorem f_B.hown (hB : f_B p s m args meth c own y bt maxL ret lo hi mc sz D cA ad) : s.vm.findClass own = some m.cls := hB.2.2.2.2.1
theorem f_B.hsz (hB : f_B p s m args meth c own y bt maxL ret lo hi mc sz D cA ad) : s.heap.size = sz := hB.2.2.2.2.2.2.2.2.1
theorem f_B.A (hB : f_B p s m args meth c own y bt maxL ret lo hi mc sz D cA ad) {G : fG} (h1 : hi ≤ G.1) (h2 : G.1 ≤ hi + mc) {d : Nat} (hd : lo ≤ d) (hd2 : d < G.1) : f_A lo hi ad sz (ad d) := by
  have := hB.lim
  exact f_A.sub hB.Ad hB.hlo h1 (by omega) _ (Or.inl ⟨d, hd, hd2, rfl⟩)
theorem f_B.ne (hB : f_B p s m args meth c own y bt maxL ret lo hi mc sz D cA ad) {G : fG} (h1 : hi ≤ G.1) (h2 : G.1 ≤ hi + mc) {d : Nat} (hd : lo ≤ d) (hd2 : d < G.1) : ∀ d', lo ≤ d' → d' < G.1 → d' ≠ d → ad d' ≠ ad d := by
  have := hB.lim
  exact fun d' a b z => f_Ad.inj hB.Ad hB.hlo h1 (by omega) hd hd2 a b z
/-- reading a field -/
theorem f_get (hB : f_B p s m args meth c own y bt maxL ret lo hi mc sz D cA ad) {index ci k N : Nat} {C ref : String} {T : u_T} {ty : Nat → FieldType} (hC : f_CL ci C T N ty) (hk : k < N) (hl : f_FL own index ref (T k).2.1 (T k).2.2.1) (href : (T k).1 = ref) {pc : Nat} (hd : decode bt pc = .ok (.getfield index, 3)) {G : fG} {M : fMem} {o : Nat} (ho : f_isO lo G o ci = true) {H : Heap} {locs : List Loc} {cells slots : Nat} {Q : State → Prop} {R0 : Room} {lsA : Array Slot} {rest : List Value} (hP : f_P D cA ad lo G M H)
    (kk : W p l e R0 s m args below meth c H locs cells slots Q (F0 m (pc + 3) lsA (f_fv ad G M o k (f_fk ci k) :: rest))) : W p l e R0 s m args below meth c H locs cells slots Q (F0 m pc lsA (.ref (ad o) :: rest)) := by
  obtain ⟨g1, g2, g3⟩ := f_isO_spec ho
  obtain ⟨hc, hN, hin, -, -⟩ := hC
  have hP1 := hP.one g1 g2 (f_cell_O g3)
  have hv : ((List.range (f_nf ci)).map (fun k => f_fv ad G M o k (f_fk ci k)))[k]? = some (f_fv ad G M o k (f_fk ci k)) := f_range_get _ (by rw [hN]; exact hk)
  rcases hl with hl | ⟨host, hl⟩
  · exact va_get (D := D) hB.1 hB.2.1 hB.2.2.2.2.2.1 (fun w hw => List.mem_cons_of_mem _ (hin w hw)) hB.hown hB.K hP1 0 rfl hc k hk (hB.ts hl) (by rw [href]; exact fun _ h9 => h9) hv hd kk
  · exact va_getN (D := D) hB.1 hB.2.1 hB.2.2.2.2.2.1 (fun w hw => List.mem_cons_of_mem _ (hin w hw)) hB.hown hB.K hP1 0 rfl hc k hk (va_Nw.use rfl (hB.St.1 _ hl)) (by rw [href]; exact fun _ h9 => h9) hv hd kk
/-- writing a field -/
theorem f_put (hB : f_B p s m args meth c own y bt maxL ret lo hi mc sz D cA ad) {index ci k N : Nat} {C ref : String} {T : u_T} {ty : Nat → FieldType} (hC : f_CL ci C T N ty) (hk : k < N) (hl : f_FL own index ref (T k).2.1 (T k).2.2.1) (href : (T k).1 = ref) (hfin : (T k).2.2.2 = false ∨ ((T k).2.2.2 = true ∧ y.name = "<init>" ∧ (T k).1 = own ∧ Cond.fieldLink own index ref (T k).2.1 (T k).2.2.1 ∈ f_GW)) {pc : Nat} (hd : decode bt pc = .ok (.putfield index, 3)) {v : Value} (hn : narrow (ty k) v = v) (hfit : fits (ty k) v = true) {G : fG} {M : fMem} {o : Nat} (ho : f_isO lo G o ci = true) {H : Heap} {locs : List Loc} {cells slots : Nat} {Q : State → Prop} {R0 : Room} {lsA : Array Slot} {rest : List Value} (hP : f_P D cA ad lo G M H)
    (kk : ∀ (H' : Heap) (i : Nat), va_at D vwCl (ad o, .inr (ci, ((List.range (f_nf ci)).map (fun k => f_fv ad G M o k (f_fk ci k))).set k v)) H' → H'.size = H.size → (∀ q : Nat, q ≠ ad o → H'[q]? = H[q]?) → W p l e R0 s m args below meth c H' (locs ++ [⟨ad o, i⟩]) cells slots Q (F0 m (pc + 3) lsA rest)) : W p l e R0 s m args below meth c H locs cells slots Q (F0 m pc lsA (v :: .ref (ad o) :: rest)) := by
  obtain ⟨g1, g2, g3⟩ := f_isO_spec ho
  obtain ⟨hc, hN, hin0, hty, hnm⟩ := hC
  have hts := hB.2.2.2.2.2.1
  have hin : ∀ w ∈ u_ws C T N, w ∈ f_ws y bt maxL ret := fun w hw => List.mem_cons_of_mem _ (hin0 w hw)
  have hK := hB.K
  have hap := va_apart (own := own) hts hin ty hty hnm hK hc
  have hP1 := hP.one g1 g2 (f_cell_O g3)
  have hlen : k < ((List.range (f_nf ci)).map (fun k => f_fv ad G M o k (f_fk ci k))).length := by simp [hN]; exact hk
  obtain ⟨r, h1, cell, q1, q2, q3, q4⟩ := hP1 0 _ rfl
  have hr : r = (C, T, N) := Option.some.inj (h1.symm.trans hc)
  subst hr
  obtain ⟨hS, hfc, kC, hkC, hkind⟩ := hK.1 ci _ hc
  obtain ⟨cf, kf, fi, f, hif, hsl⟩ := hS k hk
  have hst := (u_facts hfc hkC (u_lays hts hin hk) hif).1
  have hlay := hts _ (hin _ (u_in_lay hk))
  unfold u_lay at hlay
  have hsame : s.fieldFound? ref (T k).2.1 (T k).2.2.1 = some (cf, kf, fi, f) := by rw [← href]; exact hif
  have fin : ∀ H' : Heap, H'[ad o]? = some (cell.setSlot (D.2 ci k) v) → H'.size = H.size → (∀ q : Nat, q ≠ ad o → H'[q]? = H[q]?) → W p l e R0 s m args below meth c H' (locs ++ [⟨ad o, D.2 ci k⟩]) cells slots Q (F0 m (pc + 3) lsA rest) := fun H' e1 e2 e3 =>
    kk H' _ ⟨_, hc, t_OB.to (V := updV (vp_V ((List.range (f_nf ci)).map (fun k => f_fv ad G M o k (f_fk ci k)))) k v) ⟨_, e1, q2, q3, t_set q4 hap hk v⟩ (fun j _ => vp_updV_set hlen v j)⟩ e2 e3
  rcases hfin with hfin | ⟨hfin, hy, hdecl, hlf⟩
  · rw [if_neg (by rw [hfin]; decide)] at hlay
    have h6 := u_store hfc hkC hkind hlay hif (hty k hk) hn hfit
    rcases hl with hl | ⟨host, hl⟩
    · refine W.putK hB.1 hB.2.1 (f := f) ⟨hB.hown, hB.ts hl, ⟨_, _, _, hsame⟩, hst⟩ (by rw [q2]; exact h6) q1 q3 (by rw [hsl]; exact k2_hasslot (q4 k hk)) rfl rfl hd fun H' e1 e2 e3 => ?_
      rw [hsl] at e1 ⊢
      exact fin H' e1 e2 e3
    · refine va_WputK hB.1 hB.2.1 (f := f) hB.hown (va_Nw.use rfl (hB.St.1 _ hl)) hsame hst (by rw [q2]; exact h6) q1 q3 (by rw [hsl]; exact k2_hasslot (q4 k hk)) rfl rfl hd fun H' e1 e2 e3 => ?_
      rw [hsl] at e1 ⊢
      exact fin H' e1 e2 e3
  · rw [if_pos hfin] at hlay
    have hcf : m.cls = cf := by
      obtain ⟨_, _, c', _, _, _, -, -, hf', -, -, -, hown2, -⟩ := Cond.laysFinal_spec hlay
      have e1 : c' = cf := by have := hif.symm.trans hf'; simp at this; exact this.1.symm
      rw [hdecl] at hown2
      rw [← e1]; exact Option.some.inj (hB.hown.symm.trans hown2)
    have h6 := u_fits hfc hkC hkind (Or.inr hlay) hif (hty k hk) hn hfit
    refine W.putFinK hB.1 hB.2.1 hB.hown (hB.ts hlf) hsame hst hcf (by rw [hB.2.2.2.2.2.2.2.1]; exact hy) (by rw [q2]; exact h6) q1 q3 (by rw [hsl]; exact k2_hasslot (q4 k hk)) rfl rfl hd fun H' e1 e2 e3 => ?_
    rw [hsl] at e1 ⊢
    exact fin H' e1 e2 e3
theorem f_fv_up {G : fG} {M : fMem} {o k ci : Nat} {v : Int32} (hk : f_fk ci k = 0) : ((List.range (f_nf ci)).map (fun j => f_fv ad G M o j (f_fk ci j))).set k (.int v) = (List.range (f_nf ci)).map (fun j => f_fv ad G (f_up M.1 o k v, M.2) o j (f_fk ci j)) := by
  have e := f_range_set (fun j => f_fv ad G M o j (f_fk ci j)) (fun j => f_fv ad G (f_up M.1 o k v, M.2) o j (f_fk ci j)) (k := k) (n := f_nf ci) (fun j hj => by
    unfold f_fv; split
    · simp [f_up, hj]
    · rfl
    · rfl)
  rw [← e]
  congr 1
  rw [hk]; simp [f_fv, f_up]
theorem f_fv_upL {G : fG} {M : fMem} {o k ci : Nat} {v : Int64} (hk : f_fk ci k = 1) : ((List.range (f_nf ci)).map (fun j => f_fv ad G M o j (f_fk ci j))).set k (.long v) = (List.range (f_nf ci)).map (fun j => f_fv ad G (M.1, f_upL M.2 o k v) o j (f_fk ci j)) := by
  have e := f_range_set (fun j => f_fv ad G M o j (f_fk ci j)) (fun j => f_fv ad G (M.1, f_upL M.2 o k v) o j (f_fk ci j)) (k := k) (n := f_nf ci) (fun j hj => by
    unfold f_fv; split
    · rfl
    · simp [f_upL, hj]
    · rfl)
  rw [← e]
  congr 1
  rw [hk]; simp [f_fv, f_upL]
theorem f_fv_upR {G : fG} {M : fMem} {o k ci : Nat} {v : Value} (hk : f_fk ci k = 2) : ((List.range (f_nf ci)).map (fun j => f_fv ad G M o j (f_fk ci j))).set k (f_cv ad v) = (List.range (f_nf ci)).map (fun j => f_fv ad (G.1, f_upR G.2 o k v) M o j (f_fk ci j)) := by
  have e := f_range_set (fun j => f_fv ad G M o j (f_fk ci j)) (fun j => f_fv ad (G.1, f_upR G.2 o k v) M o j (f_fk ci j)) (k := k) (n := f_nf ci) (fun j hj => by
    unfold f_fv; split
    · rfl
    · rfl
    · simp [f_upR, hj])
  rw [← e]
  congr 1
  rw [hk]; simp [f_fv, f_upR]
end FM
