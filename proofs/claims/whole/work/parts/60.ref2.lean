/-! ===== the reference: writes to the state; feed, box, see, book, breaker, row, count ===== -/
theorem f_upo {f : Nat → Nat → Int32} {c k j : Nat} {w : Int32} (h : j ≠ k) : f_up f c k w c j = f c j := by
  show (if c = c then (if j = k then w else f c j) else f c j) = _
  rw [if_pos rfl, if_neg h]
theorem f_ups {f : Nat → Nat → Int32} {c k : Nat} {w : Int32} : f_up f c k w c k = w := by
  show (if c = c then (if k = k then w else f c k) else f c k) = _
  rw [if_pos rfl, if_pos rfl]
theorem f_HR.cgi {c : Nat} {y : fYd} {M M' : fMem} (h : f_HR c y M) (e : ∀ k, (k = 6 ∨ k = 1 ∨ 191 ≤ k) → M'.1 c k = M.1 c k) : f_HR c y M' := by
  rcases h with ⟨a, b⟩ | ⟨a, l, m, h1, h2, h3, h4, h5, h6, h7, h8, g1, g2, g3⟩
  · exact Or.inl ⟨(e 6 (Or.inl rfl)).trans a, b⟩
  · exact Or.inr ⟨a, l, m, ⟨h1.1, by rw [e 6 (Or.inl rfl), e 1 (Or.inr (Or.inl rfl))]; exact h1.2⟩, (e 6 (Or.inl rfl)).trans h2, (e _ (by omega)).trans h3, h4, h5, (e _ (by omega)).trans h6, h7, h8, (e _ (by omega)).trans g1, g2, fun j x hj => (e _ (by omega)).trans (g3 j x hj)⟩
theorem f_RM.sU {s : fSt} {M : fMem} {s1 : fCo} {k : Nat} {w : Int32} (h : f_RM s M) (hc : f_CR 101 s1 (f_up M.1 101 k w, M.2)) : f_RM (s1, s.2) (f_up M.1 101 k w, M.2) := by
  obtain ⟨a, b, c, d1, d2⟩ := h
  have ne : ∀ c, c ≠ 101 → f_up M.1 101 k w c = M.1 c := fun c hc => f_up_ne hc
  refine ⟨hc, ?_, fun x hx => (c x hx).cg (ne 102 (by decide)), ?_, fun i y hi hy => ?_⟩
  · show f_up M.1 101 k w 100 3 = _; rw [ne 100 (by decide)]; exact b
  · show f_up M.1 101 k w 100 35 = _; rw [ne 100 (by decide)]; exact d1
  · show f_up M.1 101 k w 116 i = _; rw [ne 116 (by decide)]; exact d2 i y hi hy
theorem f_CR.n00 {s : fCo} {M : fMem} (h : f_CR 101 s M) (v : Nat) : f_CR 101 (f_su s 0 0 v) (f_up M.1 101 0 (nI v), M.2) := by
  obtain ⟨⟨a1, a2, a3, a4, a5, a6, a7, a8⟩, ⟨b1, b2, b3, b4, b5, b6, b7⟩, c⟩ := h
  exact ⟨⟨rfl, a2, a3, a4, a5, a6, a7, a8⟩, ⟨fun i hi => (f_upo (c := 101) (k := 0) (w := (nI v)) (by omega)).trans (b1 i hi), fun i hi => (f_upo (c := 101) (k := 0) (w := (nI v)) (by omega)).trans (b2 i hi), fun i hi => (f_upo (c := 101) (k := 0) (w := (nI v)) (by omega)).trans (b3 i hi), fun i hi => (f_upo (c := 101) (k := 0) (w := (nI v)) (by omega)).trans (b4 i hi), fun i hi => (f_upo (c := 101) (k := 0) (w := (nI v)) (by omega)).trans (b5 i hi), fun i hi => (f_upo (c := 101) (k := 0) (w := (nI v)) (by omega)).trans (b6 i hi), fun i hi => (f_upo (c := 101) (k := 0) (w := (nI v)) (by omega)).trans (b7 i hi)⟩, c.cgi (fun k hk => f_upo (c := 101) (by omega))⟩
theorem f_CR.n02 {s : fCo} {M : fMem} (h : f_CR 101 s M) (v : Nat) : f_CR 101 (f_su s 0 2 v) (f_up M.1 101 7 (nI v), M.2) := by
  obtain ⟨⟨a1, a2, a3, a4, a5, a6, a7, a8⟩, ⟨b1, b2, b3, b4, b5, b6, b7⟩, c⟩ := h
  exact ⟨⟨a1, a2, rfl, a4, a5, a6, a7, a8⟩, ⟨fun i hi => (f_upo (c := 101) (k := 7) (w := (nI v)) (by omega)).trans (b1 i hi), fun i hi => (f_upo (c := 101) (k := 7) (w := (nI v)) (by omega)).trans (b2 i hi), fun i hi => (f_upo (c := 101) (k := 7) (w := (nI v)) (by omega)).trans (b3 i hi), fun i hi => (f_upo (c := 101) (k := 7) (w := (nI v)) (by omega)).trans (b4 i hi), fun i hi => (f_upo (c := 101) (k := 7) (w := (nI v)) (by omega)).trans (b5 i hi), fun i hi => (f_upo (c := 101) (k := 7) (w := (nI v)) (by omega)).trans (b6 i hi), fun i hi => (f_upo (c := 101) (k := 7) (w := (nI v)) (by omega)).trans (b7 i hi)⟩, c.cgi (fun k hk => f_upo (c := 101) (by omega))⟩
theorem f_CR.nsp {s : fCo} {M : fMem} (h : f_CR 101 s M) (w : Int32) : f_CR 101 (s.1, w, s.2.2) (f_up M.1 101 8 w, M.2) := by
  obtain ⟨⟨a1, a2, a3, a4, a5, a6, a7, a8⟩, ⟨b1, b2, b3, b4, b5, b6, b7⟩, c⟩ := h
  exact ⟨⟨a1, a2, a3, rfl, a5, a6, a7, a8⟩, ⟨fun i hi => (f_upo (c := 101) (k := 8) (w := w) (by omega)).trans (b1 i hi), fun i hi => (f_upo (c := 101) (k := 8) (w := w) (by omega)).trans (b2 i hi), fun i hi => (f_upo (c := 101) (k := 8) (w := w) (by omega)).trans (b3 i hi), fun i hi => (f_upo (c := 101) (k := 8) (w := w) (by omega)).trans (b4 i hi), fun i hi => (f_upo (c := 101) (k := 8) (w := w) (by omega)).trans (b5 i hi), fun i hi => (f_upo (c := 101) (k := 8) (w := w) (by omega)).trans (b6 i hi), fun i hi => (f_upo (c := 101) (k := 8) (w := w) (by omega)).trans (b7 i hi)⟩, c.cgi (fun k hk => f_upo (c := 101) (by omega))⟩
theorem f_CR.n03 {s : fCo} {M : fMem} (h : f_CR 101 s M) (v : Nat) : f_CR 101 (f_su s 0 3 v) (f_up M.1 101 5 (nI v), M.2) := by
  obtain ⟨⟨a1, a2, a3, a4, a5, a6, a7, a8⟩, ⟨b1, b2, b3, b4, b5, b6, b7⟩, c⟩ := h
  exact ⟨⟨a1, a2, a3, a4, rfl, a6, a7, a8⟩, ⟨fun i hi => (f_upo (c := 101) (k := 5) (w := (nI v)) (by omega)).trans (b1 i hi), fun i hi => (f_upo (c := 101) (k := 5) (w := (nI v)) (by omega)).trans (b2 i hi), fun i hi => (f_upo (c := 101) (k := 5) (w := (nI v)) (by omega)).trans (b3 i hi), fun i hi => (f_upo (c := 101) (k := 5) (w := (nI v)) (by omega)).trans (b4 i hi), fun i hi => (f_upo (c := 101) (k := 5) (w := (nI v)) (by omega)).trans (b5 i hi), fun i hi => (f_upo (c := 101) (k := 5) (w := (nI v)) (by omega)).trans (b6 i hi), fun i hi => (f_upo (c := 101) (k := 5) (w := (nI v)) (by omega)).trans (b7 i hi)⟩, c.cgi (fun k hk => f_upo (c := 101) (by omega))⟩
theorem f_CR.n04 {s : fCo} {M : fMem} (h : f_CR 101 s M) (v : Nat) : f_CR 101 (f_su s 0 4 v) (f_up M.1 101 2 (nI v), M.2) := by
  obtain ⟨⟨a1, a2, a3, a4, a5, a6, a7, a8⟩, ⟨b1, b2, b3, b4, b5, b6, b7⟩, c⟩ := h
  exact ⟨⟨a1, a2, a3, a4, a5, rfl, a7, a8⟩, ⟨fun i hi => (f_upo (c := 101) (k := 2) (w := (nI v)) (by omega)).trans (b1 i hi), fun i hi => (f_upo (c := 101) (k := 2) (w := (nI v)) (by omega)).trans (b2 i hi), fun i hi => (f_upo (c := 101) (k := 2) (w := (nI v)) (by omega)).trans (b3 i hi), fun i hi => (f_upo (c := 101) (k := 2) (w := (nI v)) (by omega)).trans (b4 i hi), fun i hi => (f_upo (c := 101) (k := 2) (w := (nI v)) (by omega)).trans (b5 i hi), fun i hi => (f_upo (c := 101) (k := 2) (w := (nI v)) (by omega)).trans (b6 i hi), fun i hi => (f_upo (c := 101) (k := 2) (w := (nI v)) (by omega)).trans (b7 i hi)⟩, c.cgi (fun k hk => f_upo (c := 101) (by omega))⟩
theorem f_CR.n05 {s : fCo} {M : fMem} (h : f_CR 101 s M) (v : Nat) (hx : ∀ i, i < v → M.1 101 (55 + i) = nI (s.1 6 i)) : f_CR 101 (f_su s 0 5 v) (f_up M.1 101 3 (nI v), M.2) := by
  obtain ⟨⟨a1, a2, a3, a4, a5, a6, a7, a8⟩, ⟨b1, b2, b3, b4, b5, b6, b7⟩, c⟩ := h
  exact ⟨⟨a1, a2, a3, a4, a5, a6, rfl, a8⟩, ⟨fun i hi => (f_upo (c := 101) (k := 3) (w := (nI v)) (by omega)).trans (b1 i hi), fun i hi => (f_upo (c := 101) (k := 3) (w := (nI v)) (by omega)).trans (b2 i hi), fun i hi => (f_upo (c := 101) (k := 3) (w := (nI v)) (by omega)).trans (b3 i hi), fun i hi => (f_upo (c := 101) (k := 3) (w := (nI v)) (by omega)).trans (b4 i hi), fun i hi => (f_upo (c := 101) (k := 3) (w := (nI v)) (by omega)).trans (b5 i hi), fun i hi => (f_upo (c := 101) (k := 3) (w := (nI v)) (by omega)).trans (hx i hi), fun i hi => (f_upo (c := 101) (k := 3) (w := (nI v)) (by omega)).trans (b7 i hi)⟩, c.cgi (fun k hk => f_upo (c := 101) (by omega))⟩
theorem f_CR.n06 {s : fCo} {M : fMem} (h : f_CR 101 s M) (v : Nat) : f_CR 101 (f_su s 0 6 v) (f_up M.1 101 4 (nI v), M.2) := by
  obtain ⟨⟨a1, a2, a3, a4, a5, a6, a7, a8⟩, ⟨b1, b2, b3, b4, b5, b6, b7⟩, c⟩ := h
  exact ⟨⟨a1, a2, a3, a4, a5, a6, a7, rfl⟩, ⟨fun i hi => (f_upo (c := 101) (k := 4) (w := (nI v)) (by omega)).trans (b1 i hi), fun i hi => (f_upo (c := 101) (k := 4) (w := (nI v)) (by omega)).trans (b2 i hi), fun i hi => (f_upo (c := 101) (k := 4) (w := (nI v)) (by omega)).trans (b3 i hi), fun i hi => (f_upo (c := 101) (k := 4) (w := (nI v)) (by omega)).trans (b4 i hi), fun i hi => (f_upo (c := 101) (k := 4) (w := (nI v)) (by omega)).trans (b5 i hi), fun i hi => (f_upo (c := 101) (k := 4) (w := (nI v)) (by omega)).trans (b6 i hi), fun i hi => (f_upo (c := 101) (k := 4) (w := (nI v)) (by omega)).trans (b7 i hi)⟩, c.cgi (fun k hk => f_upo (c := 101) (by omega))⟩
theorem f_CR.r1 {s : fCo} {M : fMem} (h : f_CR 101 s M) (h4 : s.1 0 5 ≤ 4) {i : Nat} (v : Nat) (hi : i < 6) : f_CR 101 (f_su s 1 i v) (f_up M.1 101 (9 + i) (nI v), M.2) := by
  obtain ⟨⟨a1, a2, a3, a4, a5, a6, a7, a8⟩, ⟨b1, b2, b3, b4, b5, b6, b7⟩, c⟩ := h
  exact ⟨⟨(f_upo (c := 101) (k := 9 + i) (w := nI v) (by omega)).trans a1, (f_upo (c := 101) (k := 9 + i) (w := nI v) (by omega)).trans a2, (f_upo (c := 101) (k := 9 + i) (w := nI v) (by omega)).trans a3, (f_upo (c := 101) (k := 9 + i) (w := nI v) (by omega)).trans a4, (f_upo (c := 101) (k := 9 + i) (w := nI v) (by omega)).trans a5, (f_upo (c := 101) (k := 9 + i) (w := nI v) (by omega)).trans a6, (f_upo (c := 101) (k := 9 + i) (w := nI v) (by omega)).trans a7, (f_upo (c := 101) (k := 9 + i) (w := nI v) (by omega)).trans a8⟩, ⟨fun j hj => by
    show (if 9 + j = 9 + i then nI v else M.1 101 (9 + j)) = nI (if j = i then v else s.1 1 j)
    by_cases e : j = i
    · rw [if_pos (by omega), if_pos e]
    · rw [if_neg (by omega), if_neg e]; exact b1 j hj,
  fun j (hj : j < 6) => (f_upo (c := 101) (k := 9 + i) (w := nI v) (by omega)).trans (b2 j hj),
  fun j (hj : j < 24) => (f_upo (c := 101) (k := 9 + i) (w := nI v) (by omega)).trans (b3 j hj),
  fun j (hj : j < 100) => (f_upo (c := 101) (k := 9 + i) (w := nI v) (by omega)).trans (b4 j hj),
  fun j (hj : j < 10) => (f_upo (c := 101) (k := 9 + i) (w := nI v) (by omega)).trans (b5 j hj),
  fun j (hj : j < s.1 0 5) => (f_upo (c := 101) (k := 9 + i) (w := nI v) (by omega)).trans (b6 j hj),
  fun j (hj : j < 32) => (f_upo (c := 101) (k := 9 + i) (w := nI v) (by omega)).trans (b7 j hj)⟩, c.cgi (fun k hk => f_upo (c := 101) (k := 9 + i) (j := k) (w := nI v) (by omega))⟩
theorem f_CR.r2 {s : fCo} {M : fMem} (h : f_CR 101 s M) (h4 : s.1 0 5 ≤ 4) {i : Nat} (v : Nat) (hi : i < 6) : f_CR 101 (f_su s 2 i v) (f_up M.1 101 (15 + i) (nI v), M.2) := by
  obtain ⟨⟨a1, a2, a3, a4, a5, a6, a7, a8⟩, ⟨b1, b2, b3, b4, b5, b6, b7⟩, c⟩ := h
  exact ⟨⟨(f_upo (c := 101) (k := 15 + i) (w := nI v) (by omega)).trans a1, (f_upo (c := 101) (k := 15 + i) (w := nI v) (by omega)).trans a2, (f_upo (c := 101) (k := 15 + i) (w := nI v) (by omega)).trans a3, (f_upo (c := 101) (k := 15 + i) (w := nI v) (by omega)).trans a4, (f_upo (c := 101) (k := 15 + i) (w := nI v) (by omega)).trans a5, (f_upo (c := 101) (k := 15 + i) (w := nI v) (by omega)).trans a6, (f_upo (c := 101) (k := 15 + i) (w := nI v) (by omega)).trans a7, (f_upo (c := 101) (k := 15 + i) (w := nI v) (by omega)).trans a8⟩, ⟨fun j (hj : j < 6) => (f_upo (c := 101) (k := 15 + i) (w := nI v) (by omega)).trans (b1 j hj),
  fun j hj => by
    show (if 15 + j = 15 + i then nI v else M.1 101 (15 + j)) = nI (if j = i then v else s.1 2 j)
    by_cases e : j = i
    · rw [if_pos (by omega), if_pos e]
    · rw [if_neg (by omega), if_neg e]; exact b2 j hj,
  fun j (hj : j < 24) => (f_upo (c := 101) (k := 15 + i) (w := nI v) (by omega)).trans (b3 j hj),
  fun j (hj : j < 100) => (f_upo (c := 101) (k := 15 + i) (w := nI v) (by omega)).trans (b4 j hj),
  fun j (hj : j < 10) => (f_upo (c := 101) (k := 15 + i) (w := nI v) (by omega)).trans (b5 j hj),
  fun j (hj : j < s.1 0 5) => (f_upo (c := 101) (k := 15 + i) (w := nI v) (by omega)).trans (b6 j hj),
  fun j (hj : j < 32) => (f_upo (c := 101) (k := 15 + i) (w := nI v) (by omega)).trans (b7 j hj)⟩, c.cgi (fun k hk => f_upo (c := 101) (k := 15 + i) (j := k) (w := nI v) (by omega))⟩
theorem f_CR.r3 {s : fCo} {M : fMem} (h : f_CR 101 s M) (h4 : s.1 0 5 ≤ 4) {i : Nat} (v : Nat) (hi : i < 24) : f_CR 101 (f_su s 3 i v) (f_up M.1 101 (21 + i) (nI v), M.2) := by
  obtain ⟨⟨a1, a2, a3, a4, a5, a6, a7, a8⟩, ⟨b1, b2, b3, b4, b5, b6, b7⟩, c⟩ := h
  exact ⟨⟨(f_upo (c := 101) (k := 21 + i) (w := nI v) (by omega)).trans a1, (f_upo (c := 101) (k := 21 + i) (w := nI v) (by omega)).trans a2, (f_upo (c := 101) (k := 21 + i) (w := nI v) (by omega)).trans a3, (f_upo (c := 101) (k := 21 + i) (w := nI v) (by omega)).trans a4, (f_upo (c := 101) (k := 21 + i) (w := nI v) (by omega)).trans a5, (f_upo (c := 101) (k := 21 + i) (w := nI v) (by omega)).trans a6, (f_upo (c := 101) (k := 21 + i) (w := nI v) (by omega)).trans a7, (f_upo (c := 101) (k := 21 + i) (w := nI v) (by omega)).trans a8⟩, ⟨fun j (hj : j < 6) => (f_upo (c := 101) (k := 21 + i) (w := nI v) (by omega)).trans (b1 j hj),
  fun j (hj : j < 6) => (f_upo (c := 101) (k := 21 + i) (w := nI v) (by omega)).trans (b2 j hj),
  fun j hj => by
    show (if 21 + j = 21 + i then nI v else M.1 101 (21 + j)) = nI (if j = i then v else s.1 3 j)
    by_cases e : j = i
    · rw [if_pos (by omega), if_pos e]
    · rw [if_neg (by omega), if_neg e]; exact b3 j hj,
  fun j (hj : j < 100) => (f_upo (c := 101) (k := 21 + i) (w := nI v) (by omega)).trans (b4 j hj),
  fun j (hj : j < 10) => (f_upo (c := 101) (k := 21 + i) (w := nI v) (by omega)).trans (b5 j hj),
  fun j (hj : j < s.1 0 5) => (f_upo (c := 101) (k := 21 + i) (w := nI v) (by omega)).trans (b6 j hj),
  fun j (hj : j < 32) => (f_upo (c := 101) (k := 21 + i) (w := nI v) (by omega)).trans (b7 j hj)⟩, c.cgi (fun k hk => f_upo (c := 101) (k := 21 + i) (j := k) (w := nI v) (by omega))⟩
theorem f_CR.r4 {s : fCo} {M : fMem} (h : f_CR 101 s M) (h4 : s.1 0 5 ≤ 4) {i : Nat} (v : Nat) (hi : i < 100) : f_CR 101 (f_su s 4 i v) (f_up M.1 101 (91 + i) (nI v), M.2) := by
  obtain ⟨⟨a1, a2, a3, a4, a5, a6, a7, a8⟩, ⟨b1, b2, b3, b4, b5, b6, b7⟩, c⟩ := h
  exact ⟨⟨(f_upo (c := 101) (k := 91 + i) (w := nI v) (by omega)).trans a1, (f_upo (c := 101) (k := 91 + i) (w := nI v) (by omega)).trans a2, (f_upo (c := 101) (k := 91 + i) (w := nI v) (by omega)).trans a3, (f_upo (c := 101) (k := 91 + i) (w := nI v) (by omega)).trans a4, (f_upo (c := 101) (k := 91 + i) (w := nI v) (by omega)).trans a5, (f_upo (c := 101) (k := 91 + i) (w := nI v) (by omega)).trans a6, (f_upo (c := 101) (k := 91 + i) (w := nI v) (by omega)).trans a7, (f_upo (c := 101) (k := 91 + i) (w := nI v) (by omega)).trans a8⟩, ⟨fun j (hj : j < 6) => (f_upo (c := 101) (k := 91 + i) (w := nI v) (by omega)).trans (b1 j hj),
  fun j (hj : j < 6) => (f_upo (c := 101) (k := 91 + i) (w := nI v) (by omega)).trans (b2 j hj),
  fun j (hj : j < 24) => (f_upo (c := 101) (k := 91 + i) (w := nI v) (by omega)).trans (b3 j hj),
  fun j hj => by
    show (if 91 + j = 91 + i then nI v else M.1 101 (91 + j)) = nI (if j = i then v else s.1 4 j)
    by_cases e : j = i
    · rw [if_pos (by omega), if_pos e]
    · rw [if_neg (by omega), if_neg e]; exact b4 j hj,
  fun j (hj : j < 10) => (f_upo (c := 101) (k := 91 + i) (w := nI v) (by omega)).trans (b5 j hj),
  fun j (hj : j < s.1 0 5) => (f_upo (c := 101) (k := 91 + i) (w := nI v) (by omega)).trans (b6 j hj),
  fun j (hj : j < 32) => (f_upo (c := 101) (k := 91 + i) (w := nI v) (by omega)).trans (b7 j hj)⟩, c.cgi (fun k hk => f_upo (c := 101) (k := 91 + i) (j := k) (w := nI v) (by omega))⟩
theorem f_CR.r5 {s : fCo} {M : fMem} (h : f_CR 101 s M) (h4 : s.1 0 5 ≤ 4) {i : Nat} (v : Nat) (hi : i < 10) : f_CR 101 (f_su s 5 i v) (f_up M.1 101 (45 + i) (nI v), M.2) := by
  obtain ⟨⟨a1, a2, a3, a4, a5, a6, a7, a8⟩, ⟨b1, b2, b3, b4, b5, b6, b7⟩, c⟩ := h
  exact ⟨⟨(f_upo (c := 101) (k := 45 + i) (w := nI v) (by omega)).trans a1, (f_upo (c := 101) (k := 45 + i) (w := nI v) (by omega)).trans a2, (f_upo (c := 101) (k := 45 + i) (w := nI v) (by omega)).trans a3, (f_upo (c := 101) (k := 45 + i) (w := nI v) (by omega)).trans a4, (f_upo (c := 101) (k := 45 + i) (w := nI v) (by omega)).trans a5, (f_upo (c := 101) (k := 45 + i) (w := nI v) (by omega)).trans a6, (f_upo (c := 101) (k := 45 + i) (w := nI v) (by omega)).trans a7, (f_upo (c := 101) (k := 45 + i) (w := nI v) (by omega)).trans a8⟩, ⟨fun j (hj : j < 6) => (f_upo (c := 101) (k := 45 + i) (w := nI v) (by omega)).trans (b1 j hj),
  fun j (hj : j < 6) => (f_upo (c := 101) (k := 45 + i) (w := nI v) (by omega)).trans (b2 j hj),
  fun j (hj : j < 24) => (f_upo (c := 101) (k := 45 + i) (w := nI v) (by omega)).trans (b3 j hj),
  fun j (hj : j < 100) => (f_upo (c := 101) (k := 45 + i) (w := nI v) (by omega)).trans (b4 j hj),
  fun j hj => by
    show (if 45 + j = 45 + i then nI v else M.1 101 (45 + j)) = nI (if j = i then v else s.1 5 j)
    by_cases e : j = i
    · rw [if_pos (by omega), if_pos e]
    · rw [if_neg (by omega), if_neg e]; exact b5 j hj,
  fun j (hj : j < s.1 0 5) => (f_upo (c := 101) (k := 45 + i) (w := nI v) (by omega)).trans (b6 j hj),
  fun j (hj : j < 32) => (f_upo (c := 101) (k := 45 + i) (w := nI v) (by omega)).trans (b7 j hj)⟩, c.cgi (fun k hk => f_upo (c := 101) (k := 45 + i) (j := k) (w := nI v) (by omega))⟩
theorem f_CR.r6 {s : fCo} {M : fMem} (h : f_CR 101 s M) (h4 : s.1 0 5 ≤ 4) {i : Nat} (v : Nat) (hi : i < 4) : f_CR 101 (f_su s 6 i v) (f_up M.1 101 (55 + i) (nI v), M.2) := by
  obtain ⟨⟨a1, a2, a3, a4, a5, a6, a7, a8⟩, ⟨b1, b2, b3, b4, b5, b6, b7⟩, c⟩ := h
  exact ⟨⟨(f_upo (c := 101) (k := 55 + i) (w := nI v) (by omega)).trans a1, (f_upo (c := 101) (k := 55 + i) (w := nI v) (by omega)).trans a2, (f_upo (c := 101) (k := 55 + i) (w := nI v) (by omega)).trans a3, (f_upo (c := 101) (k := 55 + i) (w := nI v) (by omega)).trans a4, (f_upo (c := 101) (k := 55 + i) (w := nI v) (by omega)).trans a5, (f_upo (c := 101) (k := 55 + i) (w := nI v) (by omega)).trans a6, (f_upo (c := 101) (k := 55 + i) (w := nI v) (by omega)).trans a7, (f_upo (c := 101) (k := 55 + i) (w := nI v) (by omega)).trans a8⟩, ⟨fun j (hj : j < 6) => (f_upo (c := 101) (k := 55 + i) (w := nI v) (by omega)).trans (b1 j hj),
  fun j (hj : j < 6) => (f_upo (c := 101) (k := 55 + i) (w := nI v) (by omega)).trans (b2 j hj),
  fun j (hj : j < 24) => (f_upo (c := 101) (k := 55 + i) (w := nI v) (by omega)).trans (b3 j hj),
  fun j (hj : j < 100) => (f_upo (c := 101) (k := 55 + i) (w := nI v) (by omega)).trans (b4 j hj),
  fun j (hj : j < 10) => (f_upo (c := 101) (k := 55 + i) (w := nI v) (by omega)).trans (b5 j hj),
  fun j hj => by
    show (if 55 + j = 55 + i then nI v else M.1 101 (55 + j)) = nI (if j = i then v else s.1 6 j)
    by_cases e : j = i
    · rw [if_pos (by omega), if_pos e]
    · rw [if_neg (by omega), if_neg e]; exact b6 j hj,
  fun j (hj : j < 32) => (f_upo (c := 101) (k := 55 + i) (w := nI v) (by omega)).trans (b7 j hj)⟩, c.cgi (fun k hk => f_upo (c := 101) (k := 55 + i) (j := k) (w := nI v) (by omega))⟩
theorem f_CR.r7 {s : fCo} {M : fMem} (h : f_CR 101 s M) (h4 : s.1 0 5 ≤ 4) {i : Nat} (v : Nat) (hi : i < 32) : f_CR 101 (f_su s 7 i v) (f_up M.1 101 (59 + i) (nI v), M.2) := by
  obtain ⟨⟨a1, a2, a3, a4, a5, a6, a7, a8⟩, ⟨b1, b2, b3, b4, b5, b6, b7⟩, c⟩ := h
  exact ⟨⟨(f_upo (c := 101) (k := 59 + i) (w := nI v) (by omega)).trans a1, (f_upo (c := 101) (k := 59 + i) (w := nI v) (by omega)).trans a2, (f_upo (c := 101) (k := 59 + i) (w := nI v) (by omega)).trans a3, (f_upo (c := 101) (k := 59 + i) (w := nI v) (by omega)).trans a4, (f_upo (c := 101) (k := 59 + i) (w := nI v) (by omega)).trans a5, (f_upo (c := 101) (k := 59 + i) (w := nI v) (by omega)).trans a6, (f_upo (c := 101) (k := 59 + i) (w := nI v) (by omega)).trans a7, (f_upo (c := 101) (k := 59 + i) (w := nI v) (by omega)).trans a8⟩, ⟨fun j (hj : j < 6) => (f_upo (c := 101) (k := 59 + i) (w := nI v) (by omega)).trans (b1 j hj),
  fun j (hj : j < 6) => (f_upo (c := 101) (k := 59 + i) (w := nI v) (by omega)).trans (b2 j hj),
  fun j (hj : j < 24) => (f_upo (c := 101) (k := 59 + i) (w := nI v) (by omega)).trans (b3 j hj),
  fun j (hj : j < 100) => (f_upo (c := 101) (k := 59 + i) (w := nI v) (by omega)).trans (b4 j hj),
  fun j (hj : j < 10) => (f_upo (c := 101) (k := 59 + i) (w := nI v) (by omega)).trans (b5 j hj),
  fun j (hj : j < s.1 0 5) => (f_upo (c := 101) (k := 59 + i) (w := nI v) (by omega)).trans (b6 j hj),
  fun j hj => by
    show (if 59 + j = 59 + i then nI v else M.1 101 (59 + j)) = nI (if j = i then v else s.1 7 j)
    by_cases e : j = i
    · rw [if_pos (by omega), if_pos e]
    · rw [if_neg (by omega), if_neg e]; exact b7 j hj⟩, c.cgi (fun k hk => f_upo (c := 101) (k := 59 + i) (j := k) (w := nI v) (by omega))⟩
theorem f_RM.nb {s : fSt} {M : fMem} (h : f_RM s M) : M.1 101 0 = nI (s.1.1 0 0) := h.1.1.1
theorem f_RM.ny {s : fSt} {M : fMem} (h : f_RM s M) : M.1 101 1 = nI (s.1.1 0 1) := h.1.1.2.1
theorem f_RM.br {s : fSt} {M : fMem} (h : f_RM s M) : M.1 101 7 = nI (s.1.1 0 2) := h.1.1.2.2.1
theorem f_RM.sp {s : fSt} {M : fMem} (h : f_RM s M) : M.1 101 8 = s.1.2.1 := h.1.1.2.2.2.1
theorem f_RM.sg {s : fSt} {M : fMem} (h : f_RM s M) : M.1 101 5 = nI (s.1.1 0 3) := h.1.1.2.2.2.2.1
theorem f_RM.bx {s : fSt} {M : fMem} (h : f_RM s M) : M.1 101 2 = nI (s.1.1 0 4) := h.1.1.2.2.2.2.2.1
theorem f_RM.sn {s : fSt} {M : fMem} (h : f_RM s M) : M.1 101 3 = nI (s.1.1 0 5) := h.1.1.2.2.2.2.2.2.1
theorem f_RM.bk {s : fSt} {M : fMem} (h : f_RM s M) : M.1 101 4 = nI (s.1.1 0 6) := h.1.1.2.2.2.2.2.2.2
theorem f_RM.kd {s : fSt} {M : fMem} (h : f_RM s M) : ∀ i, i < 6 → M.1 101 (9 + i) = nI (s.1.1 1 i) := h.1.2.1.1
theorem f_RM.vl {s : fSt} {M : fMem} (h : f_RM s M) : ∀ i, i < 6 → M.1 101 (15 + i) = nI (s.1.1 2 i) := h.1.2.1.2.1
theorem f_RM.rw {s : fSt} {M : fMem} (h : f_RM s M) : ∀ i, i < 24 → M.1 101 (21 + i) = nI (s.1.1 3 i) := h.1.2.1.2.2.1
theorem f_RM.tp {s : fSt} {M : fMem} (h : f_RM s M) : ∀ i, i < 100 → M.1 101 (91 + i) = nI (s.1.1 4 i) := h.1.2.1.2.2.2.1
theorem f_RM.bo {s : fSt} {M : fMem} (h : f_RM s M) : ∀ i, i < 10 → M.1 101 (45 + i) = nI (s.1.1 5 i) := h.1.2.1.2.2.2.2.1
theorem f_RM.si {s : fSt} {M : fMem} (h : f_RM s M) : ∀ i, i < s.1.1 0 5 → M.1 101 (55 + i) = nI (s.1.1 6 i) := h.1.2.1.2.2.2.2.2.1
theorem f_RM.bb {s : fSt} {M : fMem} (h : f_RM s M) : ∀ i, i < 32 → M.1 101 (59 + i) = nI (s.1.1 7 i) := h.1.2.1.2.2.2.2.2.2
theorem f_RM.hr {s : fSt} {M : fMem} (h : f_RM s M) : f_HR 101 s.1.2.2 M := h.1.2.2
theorem f_RM.yB {s : fSt} {M : fMem} {b : Int32} {R : fR} (hR : f_RM s M) (hS : f_SW s) (h : R f_GM (some (.int (f_b (f_ng b s)))) M) : S_yB f_GM [.ref 100, .int b] M R := ⟨s.1.1 0 0, rfl, by have := hS.nb; omega, hR.nb, h⟩
theorem f_inN {x lo hi : Int32} : f_b (decide (lo ≤ x ∧ x ≤ hi)) = 0 → (x < lo ∨ hi < x) := fun h => by
  have h := of_decide_eq_false (f_b0.mp h)
  by_cases h1 : x < lo
  · exact Or.inl h1
  · by_cases h2 : hi < x
    · exact Or.inr h2
    · exact absurd ⟨Int32.not_lt.mp h1, Int32.not_lt.mp h2⟩ h
theorem f_inY {x lo hi : Int32} : ¬ f_b (decide (lo ≤ x ∧ x ≤ hi)) = 0 → (lo ≤ x ∧ x ≤ hi) := fun h => of_decide_eq_true (f_b_nt h)
set_option maxRecDepth 20000 in
theorem m_y_feed : f_Meets 2 (kX12_feed S_in) (f_y1 p_feed) := by
  intro G As M R hsp X hX hW
  match As, hsp with
  | [.ref 100, .int x], ⟨s, hG, hS, hR, hsp⟩ =>
    subst hG
    unfold p_feed at hsp
    have hsg := hS.sg
    refine f_run_ok (stop := fun q => Nat.beq q 13) hX 40 _ _ _ _ _ ?_
    refine And.intro (fun h => ?_) (fun h => ?_)
    · rw [if_pos (f_inN h)] at hsp
      exact hsp M hR
    · have h := f_inY h
      rw [if_neg (fun z => z.elim (Int32.not_lt.mpr h.1) (Int32.not_lt.mpr h.2))] at hsp
      refine f_run_ok (stop := fun q => Nat.beq q 27) hX 40 _ _ _ _ _ ?_
      refine And.intro (v9 5 (by decide)) (And.intro (fun h2 => ?_) (fun h2 => ?_))
      · have h2 : M.1 101 5 = 100 := h2
        rw [hR.sg] at h2
        have h2 := (nI_eq (b := 100) (by omega) (by omega)).mp h2
        rw [if_pos (by omega)] at hsp
        exact hsp M hR
      · have h2 : ¬ M.1 101 5 = 100 := h2
        rw [hR.sg] at h2
        have h2 : ¬ s.1.1 0 3 = 100 := fun z => h2 (by rw [z]; rfl)
        rw [if_neg (by omega)] at hsp
        have e : 91 + M.1 101 5 = nI (91 + s.1.1 0 3) := by rw [hR.sg]; exact nI_add 91 _
        obtain ⟨i1, i2⟩ := f_ix (n := 906) e (by omega) (by omega)
        refine f_run_ok (stop := fun q => Nat.beq q 42) hX 40 _ _ _ _ _ ?_
        refine And.intro (v9 5 (by decide)) (And.intro i1 ?_)
        show X f_GM 42 [some (.ref 100), some (.int x)] [] (f_up M.1 101 (91 + M.1 101 5).toNatClampNeg x, M.2)
        rw [i2]
        have r1 := hR.sU (k := 91 + s.1.1 0 3) (hR.1.r4 hS.sn (f_n x) (by omega))
        have r2 := r1.sU (k := 5) (r1.1.n03 (s.1.1 0 3 + 1))
        rw [f_nn h.1] at r1 r2
        have e5 : f_up M.1 101 (91 + s.1.1 0 3) x 101 5 = nI (s.1.1 0 3) := r1.sg
        refine f_run_ok (stop := fun q => false) hX 40 _ _ _ _ _ ?_
        refine And.intro (v9 5 (by decide)) (And.intro (v9 5 (by decide)) (And.intro (v9 5 (by decide)) ?_))
        rw [nI_succ, ← e5] at r2
        refine f_fin (hsp _ r2) ?_ rfl
        show some (Value.int (nI (s.1.1 0 3 + 1))) = some (Value.int (f_up M.1 101 (91 + s.1.1 0 3) x 101 5 + 1))
        rw [e5, nI_succ]
set_option maxRecDepth 20000 in
theorem m_y_box : f_Meets 2 (kX12_box S_in) (f_y1 p_box) := by
  intro G As M R hsp X hX hW
  match As, hsp with
  | [.ref 100, .int l], ⟨s, hG, hS, hR, hsp⟩ =>
    subst hG
    unfold p_box at hsp
    have hb := hS.bx
    refine f_run_ok (stop := fun q => Nat.beq q 14) hX 40 _ _ _ _ _ ?_
    refine And.intro (fun h => ?_) (fun h => ?_)
    · rw [if_pos h] at hsp
      exact And.intro (v9 2 (by decide)) (hsp _ (hR.sU (k := 2) (w := nI 0) (hR.1.n04 0)))
    · rw [if_neg h] at hsp
      refine f_run_ok (stop := fun q => Nat.beq q 27) hX 40 _ _ _ _ _ ?_
      refine And.intro (fun h => ?_) (fun h => ?_)
      · rw [if_pos (f_inN h)] at hsp
        exact hsp M hR
      · have h := f_inY h
        rw [if_neg (fun z => z.elim (Int32.not_lt.mpr h.1) (Int32.not_lt.mpr h.2))] at hsp
        have h0 : 0 ≤ l := Int32.le_trans (by decide) h.1
        refine f_run_ok (stop := fun q => Nat.beq q 41) hX 40 _ _ _ _ _ ?_
        refine And.intro (v9 2 (by decide)) (And.intro (fun h2 => ?_) (fun h2 => ?_))
        · have h2 : M.1 101 2 = 10 := h2
          rw [hR.bx] at h2
          have h2 := (nI_eq (b := 10) (by omega) (by omega)).mp h2
          rw [if_pos (by omega)] at hsp
          exact hsp M hR
        · have h2 : ¬ M.1 101 2 = 10 := h2
          rw [hR.bx] at h2
          have h2 : ¬ s.1.1 0 4 = 10 := fun z => h2 (by rw [z]; rfl)
          rw [if_neg (by omega)] at hsp
          have e : 45 + M.1 101 2 = nI (45 + s.1.1 0 4) := by rw [hR.bx]; exact nI_add 45 _
          obtain ⟨i1, i2⟩ := f_ix (n := 906) e (by omega) (by omega)
          refine f_run_ok (stop := fun q => Nat.beq q 56) hX 40 _ _ _ _ _ ?_
          refine And.intro (v9 2 (by decide)) (And.intro i1 ?_)
          show X f_GM 56 [some (.ref 100), some (.int l)] [] (f_up M.1 101 (45 + M.1 101 2).toNatClampNeg l, M.2)
          rw [i2]
          have r1 := hR.sU (k := 45 + s.1.1 0 4) (hR.1.r5 hS.sn (f_n l) (by omega))
          have r2 := r1.sU (k := 2) (r1.1.n04 (s.1.1 0 4 + 1))
          rw [f_nn h0] at r1 r2
          have e5 : f_up M.1 101 (45 + s.1.1 0 4) l 101 2 = nI (s.1.1 0 4) := r1.bx
          refine f_run_ok (stop := fun q => false) hX 40 _ _ _ _ _ ?_
          refine And.intro (v9 2 (by decide)) (And.intro (v9 2 (by decide)) (And.intro (v9 2 (by decide)) ?_))
          rw [nI_succ, ← e5] at r2
          refine f_fin (hsp _ r2) ?_ rfl
          show some (Value.int (nI (s.1.1 0 4 + 1))) = some (Value.int (f_up M.1 101 (45 + s.1.1 0 4) l 101 2 + 1))
          rw [e5, nI_succ]
set_option maxRecDepth 20000 in
theorem m_y_see : f_Meets 2 (kX12_see S_in) (f_y1 p_see) := by
  intro G As M R hsp X hX hW
  match As, hsp with
  | [.ref 100, .int l], ⟨s, hG, hS, hR, hsp⟩ =>
    subst hG
    unfold p_see at hsp
    have hb := hS.sn
    refine f_run_ok (stop := fun q => Nat.beq q 14) hX 40 _ _ _ _ _ ?_
    refine And.intro (fun h => ?_) (fun h => ?_)
    · rw [if_pos h] at hsp
      exact And.intro (v9 3 (by decide)) (hsp _ (hR.sU (k := 3) (w := nI 0) (hR.1.n05 0 (fun i hi => absurd hi (Nat.not_lt_zero i)))))
    · rw [if_neg h] at hsp
      refine f_run_ok (stop := fun q => Nat.beq q 27) hX 40 _ _ _ _ _ ?_
      refine And.intro (fun h => ?_) (fun h => ?_)
      · rw [if_pos (f_inN h)] at hsp
        exact hsp M hR
      · have h := f_inY h
        rw [if_neg (fun z => z.elim (Int32.not_lt.mpr h.1) (Int32.not_lt.mpr h.2))] at hsp
        have h0 : 0 ≤ l := Int32.le_trans (by decide) h.1
        refine f_run_ok (stop := fun q => Nat.beq q 40) hX 40 _ _ _ _ _ ?_
        refine And.intro (v9 3 (by decide)) (And.intro (fun h2 => ?_) (fun h2 => ?_))
        · have h2 : M.1 101 3 = 4 := h2
          rw [hR.sn] at h2
          have h2 := (nI_eq (b := 4) (by omega) (by omega)).mp h2
          rw [if_pos (by omega)] at hsp
          exact hsp M hR
        · have h2 : ¬ M.1 101 3 = 4 := h2
          rw [hR.sn] at h2
          have h2 : ¬ s.1.1 0 5 = 4 := fun z => h2 (by rw [z]; rfl)
          rw [if_neg (by omega)] at hsp
          have e : 55 + M.1 101 3 = nI (55 + s.1.1 0 5) := by rw [hR.sn]; exact nI_add 55 _
          obtain ⟨i1, i2⟩ := f_ix (n := 906) e (by omega) (by omega)
          refine f_run_ok (stop := fun q => Nat.beq q 55) hX 40 _ _ _ _ _ ?_
          refine And.intro (v9 3 (by decide)) (And.intro i1 ?_)
          show X f_GM 55 [some (.ref 100), some (.int l)] [] (f_up M.1 101 (55 + M.1 101 3).toNatClampNeg l, M.2)
          rw [i2]
          have r1 := hR.sU (k := 55 + s.1.1 0 5) (hR.1.r6 hS.sn (f_n l) (by omega))
          have r2 := r1.sU (k := 3) (r1.1.n05 (s.1.1 0 5 + 1)  (fun i hi => by
            show (if 55 + i = 55 + s.1.1 0 5 then nI (f_n l) else M.1 101 (55 + i)) = nI (if i = s.1.1 0 5 then f_n l else s.1.1 6 i)
            by_cases e : i = s.1.1 0 5
            · rw [if_pos (by omega), if_pos e]
            · rw [if_neg (by omega), if_neg e]; exact hR.si i (by omega)))
          rw [f_nn h0] at r1 r2
          have e5 : f_up M.1 101 (55 + s.1.1 0 5) l 101 3 = nI (s.1.1 0 5) := r1.sn
          refine f_run_ok (stop := fun q => false) hX 40 _ _ _ _ _ ?_
          refine And.intro (v9 3 (by decide)) (And.intro (v9 3 (by decide)) (And.intro (v9 3 (by decide)) ?_))
          rw [nI_succ, ← e5] at r2
          refine f_fin (hsp _ r2) ?_ rfl
          show some (Value.int (nI (s.1.1 0 5 + 1))) = some (Value.int (f_up M.1 101 (55 + s.1.1 0 5) l 101 3 + 1))
          rw [e5, nI_succ]
