/-! ===== the reference: a yard is read: bytes of a word, steps written, numbers ===== -/
theorem m_ch1 : f_Meets 2 (kJ1_charAt_3b067 S_cix) S_ch1 := by
  intro G As M R hsp X hX hW
  match As, hsp with
  | [.ref r, .int z], ⟨i, k, hr, hi, hz, hk, hsp⟩ =>
    subst hr; subst hz
    have hl := f_stx_len i hi
    have ha := f_stx_and i hi k (by omega) hk
    have hb : (nI k).toNatClampNeg = k := nI_clamp (by omega)
    have fin : ∀ z : Int32, z = (f_stx i).getD k 0 → R G (some (.int z)) M := fun z hz => by rw [hz]; exact hsp
    have hv : vp_in (nI k) (f_slen.getD i 0) := by rw [hl.2]; exact vp_in_nI hk (by omega)
    have hn : narrow .char (.int (((f_stx i).getD (nI k).toNatClampNeg 0 &&& 255).toUInt32 % 65536).toInt32) = .int (((f_stx i).getD (nI k).toNatClampNeg 0 &&& 255).toUInt32 % 65536).toInt32 := by
      rw [hb]
      have : ∀ i, i < 6 → ∀ k, k < 6 → narrow .char (.int (((f_stx i).getD k 0 &&& 255).toUInt32 % 65536).toInt32) = .int (((f_stx i).getD k 0 &&& 255).toUInt32 % 65536).toInt32 := by decide +kernel
      exact this i hi k (by omega)
    have hz : (((f_stx i).getD (nI k).toNatClampNeg 0 &&& 255).toUInt32 % 65536).toInt32 = (f_stx i).getD k 0 := by
      rw [hb]
      have : ∀ i, i < 6 → ∀ k, k < 6 → (((f_stx i).getD k 0 &&& 255).toUInt32 % 65536).toInt32 = (f_stx i).getD k 0 := by decide +kernel
      exact this i hi k (by omega)
    have hln : (nI (f_stx i).length) = Int32.ofNat (f_slen.getD i 0) := by rw [hl.2]; rfl
    rcases f_six hi with rfl | rfl | rfl | rfl | rfl | rfl
    all_goals
      refine f_run_ok (stop := fun q => false) hX 20 _ _ _ _ _ ?_
      exact ⟨k, _, rfl, hln.symm, hk, by omega, And.intro hv (And.intro hn (fin _ hz))⟩
theorem m_cha : f_Meets 2 (kJ0_charAt_5068e S_isl S_ch1) S_cha := by
  intro G As M R hsp X hX hW
  match As, hsp with
  | [.ref r, .int z], ⟨i, k, hr, hi, hz, hk, hsp⟩ =>
    subst hr; subst hz
    have hl := f_stx_len i hi
    have hn : narrow .char (.int ((f_stx i).getD k 0)) = .int ((f_stx i).getD k 0) := by
      have : ∀ i, i < 6 → ∀ k, k < 6 → narrow .char (.int ((f_stx i).getD k 0)) = .int ((f_stx i).getD k 0) := by decide +kernel
      exact this i hi k (by omega)
    rcases f_six hi with rfl | rfl | rfl | rfl | rfl | rfl
    · refine f_run_ok (stop := fun q => false) hX 20 _ _ _ _ _ ?_
      exact ⟨0, rfl, by omega, And.intro (fun z => absurd z (by decide)) (fun _ => ⟨0, k, rfl, by omega, rfl, hk, And.intro hn hsp⟩)⟩
    · refine f_run_ok (stop := fun q => false) hX 20 _ _ _ _ _ ?_
      exact ⟨1, rfl, by omega, And.intro (fun z => absurd z (by decide)) (fun _ => ⟨1, k, rfl, by omega, rfl, hk, And.intro hn hsp⟩)⟩
    · refine f_run_ok (stop := fun q => false) hX 20 _ _ _ _ _ ?_
      exact ⟨2, rfl, by omega, And.intro (fun z => absurd z (by decide)) (fun _ => ⟨2, k, rfl, by omega, rfl, hk, And.intro hn hsp⟩)⟩
    · refine f_run_ok (stop := fun q => false) hX 20 _ _ _ _ _ ?_
      exact ⟨3, rfl, by omega, And.intro (fun z => absurd z (by decide)) (fun _ => ⟨3, k, rfl, by omega, rfl, hk, And.intro hn hsp⟩)⟩
    · refine f_run_ok (stop := fun q => false) hX 20 _ _ _ _ _ ?_
      exact ⟨4, rfl, by omega, And.intro (fun z => absurd z (by decide)) (fun _ => ⟨4, k, rfl, by omega, rfl, hk, And.intro hn hsp⟩)⟩
    · refine f_run_ok (stop := fun q => false) hX 20 _ _ _ _ _ ?_
      exact ⟨5, rfl, by omega, And.intro (fun z => absurd z (by decide)) (fun _ => ⟨5, k, rfl, by omega, rfl, hk, And.intro hn hsp⟩)⟩
/-- what a reading may change: its marks, and of the state what this says -/
def f_yq (Z : Nat → Prop) (M M' : fMem) : Prop := f_em [101, 1005, 1007, 1008] M M' ∧ ∀ k, ¬ Z k → M'.1 101 k = M.1 101 k
theorem f_yq.rf {Z : Nat → Prop} {M : fMem} : f_yq Z M M := ⟨f_em.rf, fun _ _ => rfl⟩
theorem f_yq.tr {Z : Nat → Prop} {M M1 M2 : fMem} (h1 : f_yq Z M M1) (h2 : f_yq Z M1 M2) : f_yq Z M M2 := ⟨h1.1.tr h2.1, fun k hk => (h2.2 k hk).trans (h1.2 k hk)⟩
theorem f_yq.mono {Z Z' : Nat → Prop} {M M' : fMem} (h : f_yq Z M M') (hz : ∀ k, Z k → Z' k) : f_yq Z' M M' := ⟨h.1, fun k hk => h.2 k (fun z => hk (hz k z))⟩
theorem f_yq.of {Z : Nat → Prop} {M M' : fMem} (h : f_em [1005, 1007] M M') : f_yq Z M M' := ⟨h.mono (by decide), fun k _ => by rw [h.1 101 (by decide) (by decide)]⟩
def f_zs (a k : Nat) : Prop := k = 201 + a ∨ (206 + 140 * a ≤ k ∧ k < 346 + 140 * a)
def f_YC (M : fMem) (a : Nat) (l : List Int32) : Prop := M.1 101 (201 + a) = nI l.length ∧ ∀ j x, l[j]? = some x → M.1 101 (206 + 140 * a + j) = x
theorem f_YC.of {M M' : fMem} {a : Nat} {l : List Int32} (h : f_YC M a l) (e : M'.1 101 = M.1 101) : f_YC M' a l := by
  unfold f_YC at *
  rw [e]
  exact h
def S_emt : fSp := fun G As M R => match As with
  | [.ref 100, .int z] => ∃ (T : Nat → Nat) (n p a : Nat) (w : Bool) (o : Nat) (l : List Int32), G = f_GM ∧ f_YS M T n p a w o ∧ (w = false → f_YC M a l ∧ l.length < 140) ∧ (∀ M', f_yq (f_zs a) M M' → f_YS M' T n p a w o → (w = false → f_YC M' a (l ++ [z])) → R G none M')
  | _ => False
set_option maxRecDepth 20000 in
theorem m_emt : f_Meets 2 kX12_emits S_emt := by
  intro G As M R hsp X hX hW
  match As, hsp with
  | [.ref 100, .int z], ⟨T, n, p, a, w, o, l, hG, hY, hC, hsp⟩ =>
    subst hG
    obtain ⟨a1, a2, a3, a4, a5, a6, a7, a8, a9, a10⟩ := hY
    refine f_run_ok (stop := fun q => Nat.beq q 7) hX 20 _ _ _ _ _ ?_
    refine And.intro (fun h => ?_) (fun h => ?_)
    · have h : M.1 100 7 = 0 := h
      rw [a7] at h
      have hw := f_b0.mp h
      obtain ⟨⟨c1, c2⟩, hl⟩ := hC hw
      have e201 : 201 + M.1 100 4 = nI (201 + a) := by rw [a1]; exact nI_add 201 a
      obtain ⟨i1, i2⟩ := f_ix (n := 906) e201 (by omega) (by omega)
      have e206 : 206 + 140 * M.1 100 4 + M.1 101 (201 + M.1 100 4).toNatClampNeg = nI (206 + 140 * a + l.length) := by
        rw [i2, c1, a1]
        show nI 206 + nI 140 * nI a + nI l.length = _
        rw [pk_mul, nI_add, nI_add]
      obtain ⟨j1, j2⟩ := f_ix (n := 906) e206 (by omega) (by omega)
      have e2 : f_up M.1 101 (206 + 140 * a + l.length) z 101 (201 + a) = nI l.length := (f_upo (by omega)).trans c1
      refine f_run_ok (stop := fun q => Nat.beq q 39) hX 40 _ _ _ _ _ ?_
      refine And.intro i1 (And.intro j1 ?_)
      show X f_GM 39 [some (.ref 100), some (.int z)] [] (f_up M.1 101 (206 + 140 * M.1 100 4 + M.1 101 (201 + M.1 100 4).toNatClampNeg).toNatClampNeg z, M.2)
      rw [j2]
      refine f_run_ok (stop := fun q => false) hX 40 _ _ _ _ _ ?_
      refine And.intro i1 (And.intro i1 ?_)
      show R f_GM none (f_up (f_up M.1 101 (206 + 140 * a + l.length) z) 101 (201 + M.1 100 4).toNatClampNeg (f_up M.1 101 (206 + 140 * a + l.length) z 101 (201 + M.1 100 4).toNatClampNeg + 1), M.2)
      rw [i2, e2, ← nI_succ]
      have he : f_em [101, 1005, 1007, 1008] M (f_up (f_up M.1 101 (206 + 140 * a + l.length) z) 101 (201 + a) (nI (l.length + 1)), M.2) := (f_em.rf.up (c := 101) (k := 206 + 140 * a + l.length) (v := z) (by decide)).up (c := 101) (k := 201 + a) (v := nI (l.length + 1)) (by decide)
      have hk : ∀ k, k ≠ 201 + a → k ≠ 206 + 140 * a + l.length → f_up (f_up M.1 101 (206 + 140 * a + l.length) z) 101 (201 + a) (nI (l.length + 1)) 101 k = M.1 101 k := fun k h1 h2 => (f_upo h1).trans (f_upo h2)
      refine hsp _ ⟨he, fun k hz => hk k (fun e => hz (Or.inl e)) (fun e => hz (Or.inr (by omega)))⟩ ⟨a1, a2, a3, a4, a5, a6, a7, a8, a9, fun i hi => ⟨(hk _ (by omega) (by omega)).trans (a10 i hi).1, (a10 i hi).2⟩⟩ (fun _ => ⟨?_, fun j x hx => ?_⟩)
      · show f_up (f_up M.1 101 (206 + 140 * a + l.length) z) 101 (201 + a) (nI (l.length + 1)) 101 (201 + a) = _
        rw [f_ups, List.length_append]
        rfl
      · have hjl := (List.getElem?_eq_some_iff.mp hx).1
        rw [List.length_append] at hjl
        have hjl : j < l.length + 1 := hjl
        by_cases e : j = l.length
        · subst e
          rw [List.getElem?_append_right (Nat.le_refl _), Nat.sub_self] at hx
          have hx : some z = some x := hx
          cases hx
          show f_up (f_up M.1 101 (206 + 140 * a + l.length) z) 101 (201 + a) (nI (l.length + 1)) 101 (206 + 140 * a + l.length) = z
          exact (f_upo (by omega)).trans f_ups
        · rw [List.getElem?_append_left (by omega)] at hx
          exact (hk _ (by omega) (by omega)).trans (c2 j x hx)
    · have h : ¬ M.1 100 7 = 0 := h
      rw [a7] at h
      have hw := f_b_nt h
      subst hw
      exact hsp M f_yq.rf ⟨a1, a2, a3, a4, a5, a6, a7, a8, a9, a10⟩ (fun z => by cases z)
/-- a number: whether it is wrong, where it ends, what it is -/
def f_fg (T : Nat → Nat) (n p : Nat) (w : Bool) : Bool × Nat × Nat := if w = true then (true, p, 0) else match f_num T n p with
  | none => (true, p, 0)
  | some (v, q) => (false, q, v)
def S_fgr : fSp := fun G As M R => match As with
  | [.ref 100] => ∃ (T : Nat → Nat) (n p a : Nat) (w : Bool) (o : Nat), G = f_GM ∧ f_YS M T n p a w o ∧ (∀ M', f_em [1005, 1007] M M' → f_YS M' T n (f_fg T n p w).2.1 a (f_fg T n p w).1 o → R G (some (.int (nI (f_fg T n p w).2.2))) M')
  | _ => False
theorem f_dgM {T : Nat → Nat} {n p : Nat} (hT : ∀ i, i < n → T i < 128) : decide ((48 : Int32) ≤ f_sg T n p ∧ f_sg T n p ≤ 57) = (f_dg T n p).isSome := by
  unfold f_dg f_sg
  by_cases h : p < n
  · have h128 := hT p h
    rw [if_pos h]
    have e1 := nI_leI (a := 48) (b := T p) (by omega) (by omega)
    have e2 := nI_leI (a := T p) (b := 57) (by omega) (by omega)
    by_cases h2 : 48 ≤ T p ∧ T p ≤ 57
    · rw [if_pos ⟨h, h2⟩, decide_eq_true ⟨e1.mpr h2.1, e2.mpr h2.2⟩]; rfl
    · rw [if_neg (fun z => h2 z.2), decide_eq_false (fun z => h2 ⟨e1.mp z.1, e2.mp z.2⟩)]; rfl
  · rw [if_neg h, if_neg (fun z => h z.1)]
    decide
set_option maxRecDepth 20000 in
theorem m_fgr : f_Meets 3 (kX12_figures S_he S_in) S_fgr := by
  intro G As M R hsp X hX hW
  match As, hsp with
  | [.ref 100], ⟨T, n, p, a, w, o, hG, hY, hsp⟩ =>
    subst hG
    have h7 : M.1 100 7 = f_b w := hY.2.2.2.2.2.2.1
    have h4 := hY.2.2.2.1
    have h100 := hY.2.2.2.2.2.1
    have bad : f_fg T n p w = (true, p, 0) → X f_GM 27 [some (.ref 100), none, none] [.int 1, .ref 100] M := by
      intro hr
      rw [hr] at hsp
      have he : f_em [1005, 1007] M (f_up M.1 100 7 (f_b true), M.2) := f_em.rf.uf (k := 7) (by decide)
      refine f_run_ok (stop := fun q => false) hX 30 _ _ _ _ _ ?_
      exact And.intro (Or.inr rfl) (And.intro (fun z => absurd z (by decide)) (fun _ => And.intro (fun z => absurd z (show ¬ (f_b true : Int32) = 0 by decide)) (fun _ => hsp _ he (hY.wr true))))
    have good : w = false → ∀ d, f_dg T n p = some d → X f_GM 27 [some (.ref 100), none, none] [.int 0, .ref 100] M := by
      intro hw d hd
      obtain ⟨d1, d2, d3, d4⟩ := f_dg_some hd
      have hi0 : decide ((48 : Int32) ≤ f_sg T n p ∧ f_sg T n p ≤ 57) = true := by rw [f_dgM hY.lt, hd]; rfl
      have he : f_em [1005, 1007] M (f_up M.1 100 7 (f_b false), M.2) := f_em.rf.uf (k := 7) (by decide)
      have hY1 := hY.wr false
      have hY2 := hY1.sp (q := p + 1) (by omega)
      have he2 := he.uf (k := 5) (v := nI (p + 1)) (by decide)
      have e5 : M.1 100 5 = nI p := hY.2.2.1
      have ev : (10 : Int32) * 0 + f_sg T n p - 48 = nI d := by
        rw [← d1]
        refine Int32.toBitVec_inj.mp ?_
        show (10#32 * 0#32 + (f_sg T n p).toBitVec - 48#32) = (f_sg T n p).toBitVec - 48#32
        simp
      refine f_run_ok (stop := fun q => Nat.beq q 34) hX 30 _ _ _ _ _ ?_
      refine And.intro (Or.inl rfl) ?_
      show X f_GM 34 [some (.ref 100), some (.int 0), some (.int 0)] [] (f_up M.1 100 7 (f_b false), M.2)
      refine f_run_ok (stop := fun q => Nat.beq q 81) hX 40 _ _ _ _ _ ?_
      refine And.intro (fun z => absurd z (by decide)) (fun _ => And.intro (fun _ => ?_) (fun z => absurd rfl z))
      refine ⟨T, n, p, a, false, o, rfl, hY1, ?_⟩
      refine And.intro (fun z => ?_) (fun _ => ?_)
      · have z : f_b (decide ((48 : Int32) ≤ f_sg T n p ∧ f_sg T n p ≤ 57)) = 0 := z
        rw [hi0] at z
        exact absurd z (by decide)
      refine And.intro (fun _ => ?_) (fun z => absurd rfl z)
      refine ⟨T, n, p, a, false, o, rfl, hY1, ?_⟩
      show X f_GM 81 [some (.ref 100), some (.int ((10 : Int32) * 0 + f_sg T n p - 48)), some (.int 0)] [] (f_up M.1 100 7 (f_b false), M.2)
      rw [ev]
      have second : X f_GM 34 [some (.ref 100), some (.int (nI d)), some (.int 1)] [] (f_up (f_up M.1 100 7 (f_b false)) 100 5 (nI (p + 1)), M.2) := by
        have hfg : ∀ r, f_num T n p = some r → f_fg T n p w = (false, r.2, r.1) := fun r hr => by
          unfold f_fg
          rw [hw, if_neg (by decide), hr]
        have hnum : f_num T n p = if d = 0 then some (0, p + 1) else match f_dg T n (p + 1) with
          | none => some (d, p + 1)
          | some e => some (d * 10 + e, p + 2) := by
          unfold f_num
          rw [hd]
          rfl
        have one : f_num T n p = some (d, p + 1) → X f_GM 97 [some (.ref 100), some (.int (nI d)), some (.int 1)] [] (f_up (f_up M.1 100 7 (f_b false)) 100 5 (nI (p + 1)), M.2) := by
          intro hr
          rw [hfg _ hr] at hsp
          exact f_run_ok (stop := fun q => false) hX 10 _ _ _ _ _ (hsp _ he2 hY2)
        refine f_run_ok (stop := fun q => Nat.beq q 97 || Nat.beq q 68) hX 40 _ _ _ _ _ ?_
        refine And.intro (fun z => absurd z (by decide)) (fun _ => And.intro (fun _ => ?_) (fun z => absurd rfl z))
        refine ⟨T, n, p + 1, a, false, o, rfl, hY2, ?_⟩
        refine And.intro (fun z => ?_) (fun z => ?_)
        · have z : f_b (decide ((48 : Int32) ≤ f_sg T n (p + 1) ∧ f_sg T n (p + 1) ≤ 57)) = 0 := z
          rw [f_dgM hY.lt] at z
          have z := f_b0.mp z
          refine one ?_
          rw [hnum]
          split
          · rename_i e; rw [e]
          · cases hq : f_dg T n (p + 1) with
            | none => rfl
            | some e => rw [hq] at z; cases z
        · have z : ¬ f_b (decide ((48 : Int32) ≤ f_sg T n (p + 1) ∧ f_sg T n (p + 1) ≤ 57)) = 0 := z
          rw [f_dgM hY.lt] at z
          have z := f_b_nt z
          obtain ⟨e, hq⟩ := Option.isSome_iff_exists.mp z
          obtain ⟨g1, g2, g3, g4⟩ := f_dg_some hq
          refine And.intro (fun z => absurd z (by decide)) (fun _ => And.intro (fun z2 => ?_) (fun z2 => ?_))
          · have z2 := (f_pos_nI (by omega)).mp z2
            exact one (by rw [hnum, if_pos z2, z2])
          · have z2 : ¬ d = 0 := fun q => z2 ((f_pos_nI (by omega)).mpr q)
            have hr : f_num T n p = some (d * 10 + e, p + 2) := by rw [hnum, if_neg z2, hq]
            rw [hfg _ hr] at hsp
            have ev2 : (10 : Int32) * nI d + f_sg T n (p + 1) - 48 = nI (d * 10 + e) := by
              rw [Nat.mul_comm d 10, ← nI_add, ← g1, ← pk_mul]
              refine Int32.toBitVec_inj.mp ?_
              show ((10#32 * (nI d).toBitVec + (f_sg T n (p + 1)).toBitVec) - 48#32) = 10#32 * (nI d).toBitVec + ((f_sg T n (p + 1)).toBitVec - 48#32)
              rw [BitVec.sub_eq_add_neg, BitVec.sub_eq_add_neg, BitVec.add_assoc]
            refine f_run_ok (stop := fun q => Nat.beq q 81) hX 40 _ _ _ _ _ ?_
            refine ⟨T, n, p + 1, a, false, o, rfl, hY2, ?_⟩
            show X f_GM 81 [some (.ref 100), some (.int ((10 : Int32) * nI d + f_sg T n (p + 1) - 48)), some (.int 1)] [] (f_up (f_up M.1 100 7 (f_b false)) 100 5 (nI (p + 1)), M.2)
            rw [ev2]
            have hY3 := hY2.sp (q := p + 2) (by omega)
            have q := hsp _ (he2.uf (k := 5) (v := nI (p + 2)) (by decide)) hY3
            rw [show nI (p + 2) = nI (p + 1) + 1 from nI_succ (p + 1)] at q
            refine f_run_ok (stop := fun q => false) hX 40 _ _ _ _ _ ?_
            exact And.intro (fun _ => q) (fun z => absurd (by decide) z)
      have q := second
      rw [nI_succ p, ← e5] at q
      exact f_run_ok (stop := fun q => Nat.beq q 34) hX 40 _ _ _ _ _ q
    refine f_run_ok (stop := fun q => Nat.beq q 27) hX 40 _ _ _ _ _ ?_
    refine And.intro (fun h => ?_) (fun h => ?_)
    · have h : M.1 100 7 = 0 := h
      rw [h7] at h
      have hw := f_b0.mp h
      refine ⟨T, n, p, a, w, o, rfl, hY, ?_⟩
      refine And.intro (fun z => ?_) (fun z => ?_)
      · have z : f_b (decide ((48 : Int32) ≤ f_sg T n p ∧ f_sg T n p ≤ 57)) = 0 := z
        rw [f_dgM hY.lt] at z
        have z := f_b0.mp z
        refine bad ?_
        unfold f_fg
        rw [hw, if_neg (by decide)]
        cases hq : f_dg T n p with
        | some e => rw [hq] at z; cases z
        | none =>
          have : f_num T n p = none := by unfold f_num; rw [hq]
          rw [this]
      · have z : ¬ f_b (decide ((48 : Int32) ≤ f_sg T n p ∧ f_sg T n p ≤ 57)) = 0 := z
        rw [f_dgM hY.lt] at z
        have z := f_b_nt z
        obtain ⟨d, hd⟩ := Option.isSome_iff_exists.mp z
        exact good hw d hd
    · have h : ¬ M.1 100 7 = 0 := h
      rw [h7] at h
      have hw := f_b_nt h
      refine bad ?_
      unfold f_fg
      rw [if_pos hw]
