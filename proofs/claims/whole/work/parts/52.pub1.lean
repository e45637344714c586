/-! ===== the class: its state's cells, written; the first public methods ===== -/
theorem f_RX.sU {s : fSt} {M : fMem} {s1 : fCo} {k i : Nat} {w : Int32} (h : f_RX s M) (h1 : 1 ≤ k) (h2 : k ≤ 13) (hc : f_CX 0 s1 (f_up M.1 k i w, M.2)) : f_RX (s1, s.2) (f_up M.1 k i w, M.2) := by
  obtain ⟨g1, g2, g3, ⟨g4, g5⟩, g6⟩ := h
  have ne : ∀ c, c = 0 ∨ 14 ≤ c → f_up M.1 k i w c = M.1 c := fun c hc => f_up_ne (by omega)
  refine ⟨hc, ?_, fun x hx => (g3 x hx).cg (fun c a b => ne _ (by omega)), ⟨?_, fun j y hj hy => ?_⟩, fun j hj => ?_⟩
  · show f_up M.1 k i w 0 2 = _
    rw [ne 0 (by omega)]; exact g2
  · show f_up M.1 k i w 52 0 = _
    rw [ne 52 (by omega)]; exact g4
  · show f_up M.1 k i w 53 j = _
    rw [ne 53 (by omega)]; exact g5 j y hj hy
  · show f_up M.1 k i w 42 j = _
    rw [ne 42 (by omega)]; exact g6 j hj
theorem f_CX.s00 {s : fCo} {M : fMem} (h : f_CX 0 s M) (v : Nat) : f_CX 0 (f_su s 0 0 v) (f_up M.1 1 0 (nI v), M.2) := by
  obtain ⟨⟨a1, a2, a3, a4, a5, a6, a7, a8⟩, ⟨b1, b2, b3, b4, b5, b6, b7⟩, c1, c2, c3⟩ := h
  exact ⟨⟨rfl, a2, a3, a4, a5, a6, a7, a8⟩, ⟨b1, b2, b3, b4, b5, b6, b7⟩, c1, c2, c3.cg rfl rfl rfl rfl rfl⟩
theorem f_CX.s01 {s : fCo} {M : fMem} (h : f_CX 0 s M) (v : Nat) : f_CX 0 (f_su s 0 1 v) (f_up M.1 1 4 (nI v), M.2) := by
  obtain ⟨⟨a1, a2, a3, a4, a5, a6, a7, a8⟩, ⟨b1, b2, b3, b4, b5, b6, b7⟩, c1, c2, c3⟩ := h
  exact ⟨⟨a1, rfl, a3, a4, a5, a6, a7, a8⟩, ⟨b1, b2, b3, b4, b5, b6, b7⟩, c1, c2, c3.cg rfl rfl rfl rfl rfl⟩
theorem f_CX.s02 {s : fCo} {M : fMem} (h : f_CX 0 s M) (v : Nat) : f_CX 0 (f_su s 0 2 v) (f_up M.1 1 6 (nI v), M.2) := by
  obtain ⟨⟨a1, a2, a3, a4, a5, a6, a7, a8⟩, ⟨b1, b2, b3, b4, b5, b6, b7⟩, c1, c2, c3⟩ := h
  exact ⟨⟨a1, a2, rfl, a4, a5, a6, a7, a8⟩, ⟨b1, b2, b3, b4, b5, b6, b7⟩, c1, c2, c3.cg rfl rfl rfl rfl rfl⟩
theorem f_CX.s03 {s : fCo} {M : fMem} (h : f_CX 0 s M) (v : Nat) : f_CX 0 (f_su s 0 3 v) (f_up M.1 1 8 (nI v), M.2) := by
  obtain ⟨⟨a1, a2, a3, a4, a5, a6, a7, a8⟩, ⟨b1, b2, b3, b4, b5, b6, b7⟩, c1, c2, c3⟩ := h
  exact ⟨⟨a1, a2, a3, a4, rfl, a6, a7, a8⟩, ⟨b1, b2, b3, b4, b5, b6, b7⟩, c1, c2, c3.cg rfl rfl rfl rfl rfl⟩
theorem f_CX.s04 {s : fCo} {M : fMem} (h : f_CX 0 s M) (v : Nat) : f_CX 0 (f_su s 0 4 v) (f_up M.1 1 10 (nI v), M.2) := by
  obtain ⟨⟨a1, a2, a3, a4, a5, a6, a7, a8⟩, ⟨b1, b2, b3, b4, b5, b6, b7⟩, c1, c2, c3⟩ := h
  exact ⟨⟨a1, a2, a3, a4, a5, rfl, a7, a8⟩, ⟨b1, b2, b3, b4, b5, b6, b7⟩, c1, c2, c3.cg rfl rfl rfl rfl rfl⟩
theorem f_CX.s05 {s : fCo} {M : fMem} (h : f_CX 0 s M) (v : Nat) : f_CX 0 (f_su s 0 5 v) (f_up M.1 1 12 (nI v), M.2) := by
  obtain ⟨⟨a1, a2, a3, a4, a5, a6, a7, a8⟩, ⟨b1, b2, b3, b4, b5, b6, b7⟩, c1, c2, c3⟩ := h
  exact ⟨⟨a1, a2, a3, a4, a5, a6, rfl, a8⟩, ⟨b1, b2, b3, b4, b5, b6, b7⟩, c1, c2, c3.cg rfl rfl rfl rfl rfl⟩
theorem f_CX.s06 {s : fCo} {M : fMem} (h : f_CX 0 s M) (v : Nat) : f_CX 0 (f_su s 0 6 v) (f_up M.1 1 14 (nI v), M.2) := by
  obtain ⟨⟨a1, a2, a3, a4, a5, a6, a7, a8⟩, ⟨b1, b2, b3, b4, b5, b6, b7⟩, c1, c2, c3⟩ := h
  exact ⟨⟨a1, a2, a3, a4, a5, a6, a7, rfl⟩, ⟨b1, b2, b3, b4, b5, b6, b7⟩, c1, c2, c3.cg rfl rfl rfl rfl rfl⟩
theorem f_CX.s1 {s : fCo} {M : fMem} (h : f_CX 0 s M) (i v : Nat) : f_CX 0 (f_su s 1 i v) (f_up M.1 2 i (nI v), M.2) := by
  obtain ⟨⟨a1, a2, a3, a4, a5, a6, a7, a8⟩, ⟨b1, b2, b3, b4, b5, b6, b7⟩, c1, c2, c3⟩ := h
  refine ⟨⟨a1, a2, a3, a4, a5, a6, a7, a8⟩, ⟨fun j hj => ?_, b2, b3, b4, b5, b6, b7⟩, c1, c2, c3.cg rfl rfl rfl rfl rfl⟩
  show (if j = i then nI v else M.1 2 j) = nI (if j = i then v else s.1 1 j)
  by_cases e : j = i
  · rw [if_pos e, if_pos e]
  · rw [if_neg e, if_neg e]; exact b1 j hj
theorem f_CX.s2 {s : fCo} {M : fMem} (h : f_CX 0 s M) (i v : Nat) : f_CX 0 (f_su s 2 i v) (f_up M.1 3 i (nI v), M.2) := by
  obtain ⟨⟨a1, a2, a3, a4, a5, a6, a7, a8⟩, ⟨b1, b2, b3, b4, b5, b6, b7⟩, c1, c2, c3⟩ := h
  refine ⟨⟨a1, a2, a3, a4, a5, a6, a7, a8⟩, ⟨b1, fun j hj => ?_, b3, b4, b5, b6, b7⟩, c1, c2, c3.cg rfl rfl rfl rfl rfl⟩
  show (if j = i then nI v else M.1 3 j) = nI (if j = i then v else s.1 2 j)
  by_cases e : j = i
  · rw [if_pos e, if_pos e]
  · rw [if_neg e, if_neg e]; exact b2 j hj
theorem f_CX.s3 {s : fCo} {M : fMem} (h : f_CX 0 s M) (i v : Nat) : f_CX 0 (f_su s 3 i v) (f_up M.1 4 i (nI v), M.2) := by
  obtain ⟨⟨a1, a2, a3, a4, a5, a6, a7, a8⟩, ⟨b1, b2, b3, b4, b5, b6, b7⟩, c1, c2, c3⟩ := h
  refine ⟨⟨a1, a2, a3, a4, a5, a6, a7, a8⟩, ⟨b1, b2, fun j hj => ?_, b4, b5, b6, b7⟩, c1, c2, c3.cg rfl rfl rfl rfl rfl⟩
  show (if j = i then nI v else M.1 4 j) = nI (if j = i then v else s.1 3 j)
  by_cases e : j = i
  · rw [if_pos e, if_pos e]
  · rw [if_neg e, if_neg e]; exact b3 j hj
theorem f_CX.s4 {s : fCo} {M : fMem} (h : f_CX 0 s M) (i v : Nat) : f_CX 0 (f_su s 4 i v) (f_up M.1 10 i (nI v), M.2) := by
  obtain ⟨⟨a1, a2, a3, a4, a5, a6, a7, a8⟩, ⟨b1, b2, b3, b4, b5, b6, b7⟩, c1, c2, c3⟩ := h
  refine ⟨⟨a1, a2, a3, a4, a5, a6, a7, a8⟩, ⟨b1, b2, b3, fun j hj => ?_, b5, b6, b7⟩, c1, c2, c3.cg rfl rfl rfl rfl rfl⟩
  show (if j = i then nI v else M.1 10 j) = nI (if j = i then v else s.1 4 j)
  by_cases e : j = i
  · rw [if_pos e, if_pos e]
  · rw [if_neg e, if_neg e]; exact b4 j hj
theorem f_CX.s5 {s : fCo} {M : fMem} (h : f_CX 0 s M) (i v : Nat) : f_CX 0 (f_su s 5 i v) (f_up M.1 11 i (nI v), M.2) := by
  obtain ⟨⟨a1, a2, a3, a4, a5, a6, a7, a8⟩, ⟨b1, b2, b3, b4, b5, b6, b7⟩, c1, c2, c3⟩ := h
  refine ⟨⟨a1, a2, a3, a4, a5, a6, a7, a8⟩, ⟨b1, b2, b3, b4, fun j hj => ?_, b6, b7⟩, c1, c2, c3.cg rfl rfl rfl rfl rfl⟩
  show (if j = i then nI v else M.1 11 j) = nI (if j = i then v else s.1 5 j)
  by_cases e : j = i
  · rw [if_pos e, if_pos e]
  · rw [if_neg e, if_neg e]; exact b5 j hj
theorem f_CX.s6 {s : fCo} {M : fMem} (h : f_CX 0 s M) (i v : Nat) : f_CX 0 (f_su s 6 i v) (f_up M.1 12 i (nI v), M.2) := by
  obtain ⟨⟨a1, a2, a3, a4, a5, a6, a7, a8⟩, ⟨b1, b2, b3, b4, b5, b6, b7⟩, c1, c2, c3⟩ := h
  refine ⟨⟨a1, a2, a3, a4, a5, a6, a7, a8⟩, ⟨b1, b2, b3, b4, b5, fun j hj => ?_, b7⟩, c1, c2, c3.cg rfl rfl rfl rfl rfl⟩
  show (if j = i then nI v else M.1 12 j) = nI (if j = i then v else s.1 6 j)
  by_cases e : j = i
  · rw [if_pos e, if_pos e]
  · rw [if_neg e, if_neg e]; exact b6 j hj
theorem f_CX.s7 {s : fCo} {M : fMem} (h : f_CX 0 s M) (i v : Nat) : f_CX 0 (f_su s 7 i v) (f_up M.1 13 i (nI v), M.2) := by
  obtain ⟨⟨a1, a2, a3, a4, a5, a6, a7, a8⟩, ⟨b1, b2, b3, b4, b5, b6, b7⟩, c1, c2, c3⟩ := h
  refine ⟨⟨a1, a2, a3, a4, a5, a6, a7, a8⟩, ⟨b1, b2, b3, b4, b5, b6, fun j hj => ?_⟩, c1, c2, c3.cg rfl rfl rfl rfl rfl⟩
  show (if j = i then nI v else M.1 13 j) = nI (if j = i then v else s.1 7 j)
  by_cases e : j = i
  · rw [if_pos e, if_pos e]
  · rw [if_neg e, if_neg e]; exact b7 j hj
theorem f_CX.ssp {s : fCo} {M : fMem} (h : f_CX 0 s M) (w : Int32) : f_CX 0 (s.1, w, s.2.2) (f_up M.1 1 7 w, M.2) := by
  obtain ⟨⟨a1, a2, a3, a4, a5, a6, a7, a8⟩, ⟨b1, b2, b3, b4, b5, b6, b7⟩, c1, c2, c3⟩ := h
  exact ⟨⟨a1, a2, a3, rfl, a5, a6, a7, a8⟩, ⟨b1, b2, b3, b4, b5, b6, b7⟩, c1, c2, c3.cg rfl rfl rfl rfl rfl⟩
theorem f_RX.nb {s : fSt} {M : fMem} (h : f_RX s M) : M.1 1 0 = nI (s.1.1 0 0) := h.1.1.1
theorem f_RX.ny {s : fSt} {M : fMem} (h : f_RX s M) : M.1 1 4 = nI (s.1.1 0 1) := h.1.1.2.1
theorem f_RX.br {s : fSt} {M : fMem} (h : f_RX s M) : M.1 1 6 = nI (s.1.1 0 2) := h.1.1.2.2.1
theorem f_RX.sg {s : fSt} {M : fMem} (h : f_RX s M) : M.1 1 8 = nI (s.1.1 0 3) := h.1.1.2.2.2.2.1
theorem f_RX.bx {s : fSt} {M : fMem} (h : f_RX s M) : M.1 1 10 = nI (s.1.1 0 4) := h.1.1.2.2.2.2.2.1
theorem f_RX.sn {s : fSt} {M : fMem} (h : f_RX s M) : M.1 1 12 = nI (s.1.1 0 5) := h.1.1.2.2.2.2.2.2.1
theorem f_RX.bk {s : fSt} {M : fMem} (h : f_RX s M) : M.1 1 14 = nI (s.1.1 0 6) := h.1.1.2.2.2.2.2.2.2
theorem f_RX.sp {s : fSt} {M : fMem} (h : f_RX s M) : M.1 1 7 = s.1.2.1 := h.1.1.2.2.2.1
theorem f_RX.kd {s : fSt} {M : fMem} (h : f_RX s M) : ∀ i, i < 6 → M.1 2 i = nI (s.1.1 1 i) := h.1.2.1.1
theorem f_RX.vl {s : fSt} {M : fMem} (h : f_RX s M) : ∀ i, i < 6 → M.1 3 i = nI (s.1.1 2 i) := h.1.2.1.2.1
theorem f_RX.rw {s : fSt} {M : fMem} (h : f_RX s M) : ∀ i, i < 24 → M.1 4 i = nI (s.1.1 3 i) := h.1.2.1.2.2.1
theorem f_RX.tp {s : fSt} {M : fMem} (h : f_RX s M) : ∀ i, i < 100 → M.1 10 i = nI (s.1.1 4 i) := h.1.2.1.2.2.2.1
theorem f_RX.bo {s : fSt} {M : fMem} (h : f_RX s M) : ∀ i, i < 10 → M.1 11 i = nI (s.1.1 5 i) := h.1.2.1.2.2.2.2.1
theorem f_RX.si {s : fSt} {M : fMem} (h : f_RX s M) : ∀ i, i < 4 → M.1 12 i = nI (s.1.1 6 i) := h.1.2.1.2.2.2.2.2.1
theorem f_RX.bb {s : fSt} {M : fMem} (h : f_RX s M) : ∀ i, i < 32 → M.1 13 i = nI (s.1.1 7 i) := h.1.2.1.2.2.2.2.2.2
theorem f_RX.ln {s : fSt} {M : fMem} (h : f_RX s M) : M.1 5 0 = nI s.1.2.2.1 := h.1.2.2.1
theorem f_RX.ct {s : fSt} {M : fMem} (h : f_RX s M) : M.1 5 1 = nI s.1.2.2.2.1 := h.1.2.2.2.1
theorem f_RX.yh {s : fSt} {M : fMem} (h : f_RX s M) (hW : f_SW s) : f_YH M s.1.2.2.1 s.1.2.2.2.2 := ⟨h.1.2.2.2.2, h.ln, by have := hW.1.2.2.2.2.2.2.2.2.2.1; omega, hW.1.2.2.2.2.2.2.2.2.2.2.1⟩
theorem f_SW.nb {s : fSt} (h : f_SW s) : s.1.1 0 0 ≤ 6 := h.1.1.1
theorem f_SW.ny {s : fSt} (h : f_SW s) : s.1.1 0 1 ≤ 5 := h.1.1.2.1
theorem f_SW.L2 {s : fSt} (h : f_SW s) : 2 ≤ s.1.2.2.1 := h.1.2.2.2.2.2.2.2.2.2.1
theorem f_SW.L17 {s : fSt} (h : f_SW s) : s.1.2.2.1 ≤ 17 := h.1.2.2.2.2.2.2.2.2.2.2.1
theorem f_SW.c1 {s : fSt} (h : f_SW s) : 1 ≤ s.1.2.2.2.1 := h.1.2.2.2.2.2.2.2.2.2.2.2.1
theorem f_SW.c3 {s : fSt} (h : f_SW s) : s.1.2.2.2.1 ≤ 3 := h.1.2.2.2.2.2.2.2.2.2.2.2.2.1
theorem f_SW.br {s : fSt} (h : f_SW s) : s.1.1 0 2 < 2 ^ 17 := Nat.lt_of_lt_of_le h.1.1.2.2.1.1 (Nat.pow_le_pow_right (by decide) h.L17)
theorem f_SW.sg {s : fSt} (h : f_SW s) : s.1.1 0 3 ≤ 100 := h.1.1.2.2.2.1
theorem f_SW.bx {s : fSt} (h : f_SW s) : s.1.1 0 4 ≤ 10 := h.1.1.2.2.2.2.1
theorem f_SW.sn {s : fSt} (h : f_SW s) : s.1.1 0 5 ≤ 4 := h.1.1.2.2.2.2.2.1
theorem f_SW.bk {s : fSt} (h : f_SW s) : s.1.1 0 6 ≤ 8 := h.1.1.2.2.2.2.2.2
theorem f_SW.kd {s : fSt} (h : f_SW s) (i : Nat) : s.1.1 1 i < 7 := h.1.2.1 i
theorem f_SW.vl {s : fSt} (h : f_SW s) (i : Nat) : s.1.1 2 i < 10 := h.1.2.2.1 i
theorem f_SW.rw {s : fSt} (h : f_SW s) (i : Nat) : s.1.1 3 i < 10 := h.1.2.2.2.1 i
theorem f_SW.tp {s : fSt} (h : f_SW s) (i : Nat) : s.1.1 4 i < 128 := h.1.2.2.2.2.1 i
theorem f_SW.bo {s : fSt} (h : f_SW s) : ∀ i, i < s.1.1 0 4 → 1 ≤ s.1.1 5 i ∧ s.1.1 5 i < 100 := h.1.2.2.2.2.2.1
theorem f_SW.si {s : fSt} (h : f_SW s) : ∀ i, i < s.1.1 0 5 → 1 ≤ s.1.1 6 i ∧ s.1.1 6 i ≤ 17 := h.1.2.2.2.2.2.2.1
theorem f_RX.bkr {s : fSt} {M : fMem} (h : f_RX s M) (hW : f_SW s) {b : Nat} (hb : b < 6) : f_BK M b (s.1.1 1 b) (s.1.1 2 b) (fun j => s.1.1 3 (b * 4 + j)) := ⟨hb, hW.kd b, hW.vl b, h.kd b hb, h.vl b hb, fun j hj => ⟨h.rw _ (by omega), hW.rw _⟩⟩
theorem f_RX.bxs {s : fSt} {M : fMem} (h : f_RX s M) (hW : f_SW s) : f_BX M (s.1.1 0 4) (s.1.1 5) := ⟨hW.bx, fun i hi => ⟨h.bo i (by have := hW.bx; omega), (hW.bo i hi).1, by have := (hW.bo i hi).2; omega⟩⟩
theorem f_ng_t {s : fSt} {b : Int32} (hW : f_SW s) (h : f_ng b s = true) : f_n b < s.1.1 0 0 ∧ f_n b < 6 ∧ nI (f_n b) = b := by
  obtain ⟨h1, h2⟩ := of_decide_eq_true h
  have h3 := hW.nb
  have h4 := f_nlt h1 h2 (by omega)
  exact ⟨h4, by omega, f_nn h1⟩
theorem f_ng_b {s : fSt} {M : fMem} {b : Int32} (hR : f_RX s M) : decide (0 ≤ b ∧ b < M.1 1 0) = f_ng b s := by
  unfold f_ng; rw [hR.nb]
def f_SCR : List Nat := [27, 28, 29, 30, 31, 32, 33, 34, 35, 36, 37, 38, 39, 40, 41, 43, 44, 45, 46, 47, 48, 49, 50, 51]
theorem f_RX.scr {s : fSt} {M M' : fMem} {cs ds : List Nat} (h : f_RX s M) (he : f_ex cs ds M M') (hd : ∀ c ∈ cs, c ∈ f_SCR) : f_RX s M' := h.ex he (fun c hc => by
  have h2 := hd c hc
  have : ∀ c, c ∈ f_SCR → 27 ≤ c ∧ c ≠ 42 ∧ c ≠ 52 ∧ c ≠ 53 := by decide
  exact this c h2)
set_option maxRecDepth 20000 in
theorem m_x_feed : f_Meets 2 (kX11_feed S_put) (f_x1 p_feed) := by
  intro G As M R hsp X hX hW
  match As, hsp with
  | [.ref 0, .int x], ⟨s, hG, hS, hR, hsp⟩ =>
    subst hG
    unfold p_feed at hsp
    have hsg := hS.sg
    refine f_run_ok (stop := fun q => Nat.beq q 13 || Nat.beq q 10) hX 20 _ _ _ _ _ ?_
    have bad : (x < 0 ∨ 127 < x) → X f_GX 10 [some (.ref 0), some (.int x)] [] M := by
      intro h
      rw [if_pos h] at hsp
      exact f_run_ok (stop := fun _ => false) hX 10 _ _ _ _ _ (hsp M hR)
    refine And.intro (fun h => bad (Or.inl h)) (fun h => ?_)
    refine And.intro (fun h2 => ?_) (fun h2 => bad (Or.inr (Int32.not_le.mp h2)))
    have h0 : 0 ≤ x := Int32.not_lt.mp h
    rw [if_neg (fun z => z.elim h (fun z => Int32.not_lt.mpr h2 z))] at hsp
    refine f_run_ok (stop := fun q => Nat.beq q 28) hX 20 _ _ _ _ _ ?_
    refine And.intro (fun h3 => ?_) (fun h3 => ?_)
    · have h3 : M.1 1 8 < 100 := h3
      rw [hR.sg] at h3
      have h3 := (nI_ltI (b := 100) (by omega) (by omega)).mp h3
      rw [if_neg (by omega)] at hsp
      refine f_run_ok (stop := fun q => Nat.beq q 46) hX 20 _ _ _ _ _ ?_
      show X f_GX 46 [some (.ref 0), some (.int x)] [] (f_pt 100 10 (M.1 1 8) x M)
      rw [hR.sg, f_pt_in (n := 100) h3 (by decide)]
      refine f_run_ok (stop := fun _ => false) hX 20 _ _ _ _ _ ?_
      have e1 : f_RX (f_su s.1 4 (s.1.1 0 3) (f_n x), s.2) (f_up M.1 10 (s.1.1 0 3) x, M.2) := by
        have := hR.sU (k := 10) (i := s.1.1 0 3) (w := nI (f_n x)) (by decide) (by decide) (hR.1.s4 _ _)
        rw [f_nn h0] at this
        exact this
      have e2 := e1.sU (k := 1) (i := 8) (w := nI (s.1.1 0 3 + 1)) (by decide) (by decide) (e1.1.s03 _)
      have eM : ((f_up (f_up M.1 10 (s.1.1 0 3) x) 1 8 (nI (s.1.1 0 3 + 1)), M.2) : fMem) = (f_up (f_up M.1 10 (s.1.1 0 3) x) 1 8 (M.1 1 8 + 1), M.2) := by rw [hR.sg, nI_succ]
      rw [eM] at e2
      refine f_fin (hsp _ e2) ?_ rfl
      show some (Value.int (nI (s.1.1 0 3 + 1))) = some (Value.int (M.1 1 8 + 1))
      rw [hR.sg, nI_succ]
    · have h3 : ¬ M.1 1 8 < 100 := h3
      rw [hR.sg] at h3
      have h3 : ¬ s.1.1 0 3 < 100 := fun z => h3 (nI_lt (b := 100) z (by omega))
      rw [if_pos (by omega)] at hsp
      exact hsp M hR
set_option maxRecDepth 20000 in
theorem m_x_yard : f_Meets 2 (kX11_yard S_ft S_ycp) (f_x0 p_yard) := by
  intro G As M R hsp X hX hW
  match As, hsp with
  | [.ref 0], ⟨s, hG, hS, hR, hsp⟩ =>
    subst hG
    unfold p_yard at hsp
    have hny := hS.ny
    refine f_run_ok (stop := fun q => Nat.beq q 14) hX 20 _ _ _ _ _ ?_
    refine And.intro (fun h => ?_) (fun h => ?_)
    · have h : M.1 1 4 < 5 := h
      rw [hR.ny] at h
      have h := (nI_ltI (b := 5) (by omega) (by omega)).mp h
      rw [if_neg (by omega)] at hsp
      refine f_run_ok (stop := fun q => Nat.beq q 30) hX 20 _ _ _ _ _ ?_
      have hyo := f_yrd_ok (T := s.1.1 4) hS.sg
      have hyp := f_yrd_p (T := s.1.1 4) (n := s.1.1 0 3)
      have hsg := hS.sg
      refine ⟨s.1.1 4, s.1.1 0 3, rfl, hR.sg, hsg, fun i hi => ⟨hR.tp i (by omega), hS.tp i⟩, fun M1 he1 hy1 => ?_⟩
      have r1 := hR.scr he1 (by decide)
      have r2 := r1.sU (k := 1) (i := 8) (w := nI 0) (by decide) (by decide) (r1.1.s03 _)
      generalize f_yrd (s.1.1 4) (s.1.1 0 3) = y at *
      cases hy : y.1 with
      | false =>
        rw [if_neg (by rw [hy]; decide)] at hsp
        show X f_GX 30 [some (.ref 0), some (.int (nI y.2.1))] [] (f_up M1.1 1 8 0, M1.2)
        refine f_run_ok (stop := fun q => false) hX 20 _ _ _ _ _ ?_
        refine And.intro (fun h => absurd ((nI_ltI (b := 0) (by omega) (by omega)).mp h) (by omega)) (fun h => ?_)
        exact hsp _ r2
      | true =>
        rw [if_pos hy] at hsp
        have hdy := hy1 hy
        show X f_GX 30 [some (.ref 0), some (.int (-1))] [] (f_up M1.1 1 8 0, M1.2)
        refine f_run_ok (stop := fun q => false) hX 60 _ _ _ _ _ ?_
        refine And.intro (fun h => ?_) (fun h => absurd (show (-1 : Int32) < 0 by decide) h)
        refine ⟨rfl, Or.inl ⟨rfl, rfl⟩, fun M2 he2 ⟨y1, y2, y3, y4, y5⟩ => ?_⟩
        have hc2 : ∀ c, (1 ≤ c ∧ c ≤ 4) ∨ (10 ≤ c ∧ c ≤ 26) ∨ c = 42 ∨ c = 52 ∨ c = 53 ∨ c = 0 → M2.1 c = (f_up M1.1 1 8 0) c := fun c hc => he2.1 c (by
          intro q
          have : ∀ c, c ∈ [5, 5 + 1, 5 + 2, 5 + 3, 5 + 4] → 5 ≤ c ∧ c ≤ 9 := by decide
          have := this c q
          omega)
        obtain ⟨⟨⟨a1, a2, a3, a4, a5, a6, a7, a8⟩, ⟨b1, b2, b3, b4, b5, b6, b7⟩, c1, c2, c3⟩, g2, g3, ⟨g4, g5⟩, g6⟩ := r2
        obtain ⟨d1, d2, ⟨d3, d4, d5⟩⟩ := hdy
        have e1 : ∀ i, M2.1 1 i = (f_up M1.1 1 8 0) 1 i := fun i => by rw [hc2 1 (by omega)]
        have r3 : f_RX ((s.1.1, s.1.2.1, y.2.2), s.2) (f_up M2.1 1 8 (nI (s.1.1 0 3)), M2.2) := by
          refine ⟨⟨⟨?_, ?_, ?_, ?_, rfl, ?_, ?_, ?_⟩, ⟨fun i hi => ?_, fun i hi => ?_, fun i hi => ?_, fun i hi => ?_, fun i hi => ?_, fun i hi => ?_, fun i hi => ?_⟩, ?_, ?_, ?_⟩, ?_, fun k hk => ?_, ⟨?_, fun i z hi hz => ?_⟩, fun i hi => ?_⟩
          · exact (e1 0).trans a1
          · exact (e1 4).trans a2
          · exact (e1 6).trans a3
          · exact (e1 7).trans a4
          · exact (e1 10).trans a6
          · exact (e1 12).trans a7
          · exact (e1 14).trans a8
          · show M2.1 2 i = _; rw [hc2 2 (by omega)]; exact b1 i hi
          · show M2.1 3 i = _; rw [hc2 3 (by omega)]; exact b2 i hi
          · show M2.1 4 i = _; rw [hc2 4 (by omega)]; exact b3 i hi
          · show M2.1 10 i = _; rw [hc2 10 (by omega)]; exact b4 i hi
          · show M2.1 11 i = _; rw [hc2 11 (by omega)]; exact b5 i hi
          · show M2.1 12 i = _; rw [hc2 12 (by omega)]; exact b6 i hi
          · show M2.1 13 i = _; rw [hc2 13 (by omega)]; exact b7 i hi
          · exact (y1 0 (by omega)).trans d1
          · exact (y1 1 (by omega)).trans d2
          · obtain ⟨o1, o2, o3, o4, o5, o6, o7⟩ := hyo
            refine ⟨o5, o6, (y1 2 (by omega)).trans d3, fun r q hq => ?_⟩
            obtain ⟨q1, q2, q3, q4⟩ := d5 r q hq
            have hr : r < y.2.2.2.2.length := (List.getElem?_eq_some_iff.mp hq).1
            have hbs := f_beg_succ y.2.2.2.2 r q hq
            have hm := f_beg_mono y.2.2.2.2 y.2.2.2.2.length (r + 1) (by omega)
            have ok := o7 q (List.mem_of_getElem? hq)
            refine ⟨(y2 r (by omega)).trans q1, (y3 r (by omega)).trans q2, ok.1, (y4 r (by omega)).trans q3, ok.2, fun j t hj => ?_⟩
            have hjl := (List.getElem?_eq_some_iff.mp hj).1
            show M2.1 9 (f_beg y.2.2.2.2 r + j) = f_enc t
            exact (y5 _ (by omega)).trans (q4 j t hj)
          · show M2.1 0 2 = _; rw [hc2 0 (by omega)]; exact g2
          · refine (g3 k hk).cg (fun c h1 h2 => ?_)
            show f_up M2.1 1 8 (nI (s.1.1 0 3)) (c + 13) = _
            rw [f_up_ne (by omega), hc2 (c + 13) (by omega)]; rfl
          · show M2.1 52 0 = _; rw [hc2 52 (by omega)]; exact g4
          · show M2.1 53 i = _; rw [hc2 53 (by omega)]; exact g5 i z hi hz
          · show M2.1 42 i = _; rw [hc2 42 (by omega)]; exact g6 i hi
        have r4 := r3.sU (k := 1) (i := 8) (w := nI 0) (by decide) (by decide) (r3.1.s03 _)
        have r5 := r4.sU (k := 1) (i := 6) (w := nI 0) (by decide) (by decide) (r4.1.s02 _)
        have r6 := r5.sU (k := 1) (i := 7) (w := 0) (by decide) (by decide) (r5.1.ssp _)
        have r7 := r6.sU (k := 1) (i := 4) (w := nI (s.1.1 0 1 + 1)) (by decide) (by decide) (r6.1.s01 _)
        have e8 : M2.1 1 8 = 0 := (e1 8).trans rfl
        have eM : ((f_up (f_up (f_up (f_up (f_up M2.1 1 8 (nI (s.1.1 0 3))) 1 8 (nI 0)) 1 6 (nI 0)) 1 7 0) 1 4 (nI (s.1.1 0 1 + 1)), M2.2) : fMem) = (f_up (f_up (f_up M2.1 1 6 0) 1 7 0) 1 4 (M2.1 1 4 + 1), M2.2) := by
          refine Prod.ext ?_ rfl
          funext x z
          have e4 : M2.1 1 4 + 1 = nI (s.1.1 0 1 + 1) := by rw [(e1 4).trans a2, nI_succ]; rfl
          rw [e4]
          by_cases hx : x = 1
          · subst hx
            by_cases hz : z = 8
            · subst hz
              show nI 0 = M2.1 1 8
              rw [e8]; rfl
            · simp [f_up, hz]; rfl
          · simp [f_up, hx]
        have eM : ((f_up (f_up (f_up (f_up (f_up M2.1 1 8 (nI (s.1.1 0 3))) 1 8 (nI 0)) 1 6 (nI 0)) 1 7 0) 1 4 (nI (s.1.1 0 1 + 1)), M2.2) : fMem) = (f_up (f_up (f_up M2.1 1 6 0) 1 7 0) 1 4 (M2.1 1 4 + 1), M2.2) := eM
        rw [eM] at r7
        refine f_fin (hsp _ r7) ?_ rfl
        show some (Value.int (nI (s.1.1 0 1))) = some (Value.int (M2.1 1 4 + 1 - 1))
        rw [(e1 4).trans a2, ← nI_succ, nI_pred]; rfl
    · have h : ¬ M.1 1 4 < 5 := h
      rw [hR.ny] at h
      have h : ¬ s.1.1 0 1 < 5 := fun z => h (nI_lt (b := 5) z (by omega))
      rw [if_pos (by omega)] at hsp
      exact hsp M hR
