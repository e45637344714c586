/-! ===== the state as one value; what every call answers, and what it makes of the state ===== -/
/-- numbers (0: breakers, yards, broken, signs, sticks, seen, booked; 1 kinds, 2 values, 3 rows, 4 tape, 5 box, 6 sight, 7 book), what was spent, the yard -/
abbrev fCo : Type := (Nat → Nat → Nat) × Int32 × fYd
def f_su (s : fCo) (c i v : Nat) : fCo := (fun a b => if a = c then (if b = i then v else s.1 a b) else s.1 a b, s.2)
def f_CX (o : Nat) (s : fCo) (M : fMem) : Prop :=
  (M.1 (1 + o) 0 = nI (s.1 0 0) ∧ M.1 (1 + o) 4 = nI (s.1 0 1) ∧ M.1 (1 + o) 6 = nI (s.1 0 2) ∧ M.1 (1 + o) 7 = s.2.1 ∧ M.1 (1 + o) 8 = nI (s.1 0 3) ∧ M.1 (1 + o) 10 = nI (s.1 0 4) ∧ M.1 (1 + o) 12 = nI (s.1 0 5) ∧ M.1 (1 + o) 14 = nI (s.1 0 6)) ∧
  ((∀ i, i < 6 → M.1 (2 + o) i = nI (s.1 1 i)) ∧ (∀ i, i < 6 → M.1 (3 + o) i = nI (s.1 2 i)) ∧ (∀ i, i < 24 → M.1 (4 + o) i = nI (s.1 3 i)) ∧ (∀ i, i < 100 → M.1 (10 + o) i = nI (s.1 4 i)) ∧ (∀ i, i < 10 → M.1 (11 + o) i = nI (s.1 5 i)) ∧ (∀ i, i < 4 → M.1 (12 + o) i = nI (s.1 6 i)) ∧ ∀ i, i < 32 → M.1 (13 + o) i = nI (s.1 7 i)) ∧
  M.1 (5 + o) 0 = nI s.2.2.1 ∧ M.1 (5 + o) 1 = nI s.2.2.2.1 ∧ f_YR M (5 + o) s.2.2.2.2
def f_CW (s : fCo) : Prop :=
  (s.1 0 0 ≤ 6 ∧ s.1 0 1 ≤ 5 ∧ (s.1 0 2 < 2 ^ s.2.2.1 ∧ (s.1 0 2).testBit 0 = false) ∧ s.1 0 3 ≤ 100 ∧ s.1 0 4 ≤ 10 ∧ s.1 0 5 ≤ 4 ∧ s.1 0 6 ≤ 8) ∧
  (∀ i, s.1 1 i < 7) ∧ (∀ i, s.1 2 i < 10) ∧ (∀ i, s.1 3 i < 10) ∧ (∀ i, s.1 4 i < 128) ∧ (∀ i, i < s.1 0 4 → 1 ≤ s.1 5 i ∧ s.1 5 i < 100) ∧ (∀ i, i < s.1 0 5 → 1 ≤ s.1 6 i ∧ s.1 6 i ≤ 17) ∧ (∀ i, i < s.1 0 6 → ∀ j, j < 3 → 1 ≤ s.1 7 (i * 4 + j) ∧ s.1 7 (i * 4 + j) < 100) ∧ (∀ i, s.1 7 (i * 4 + 3) ≤ 1) ∧ f_yok s.2.2
/-- the state, the image, the trace -/
abbrev fSt : Type := fCo × Option fCo × List Nat
def f_RX (s : fSt) (M : fMem) : Prop := f_CX 0 s.1 M ∧ M.1 0 2 = f_b s.2.1.isSome ∧ (∀ k, s.2.1 = some k → f_CX 13 k M) ∧ f_TR M s.2.2 ∧ f_SE M
def f_SW (s : fSt) : Prop := f_CW s.1 ∧ (∀ k, s.2.1 = some k → f_CW k) ∧ s.2.2.length < 20
theorem f_YR.cg {M M' : fMem} {y : Nat} {rs : List fRl} (h : f_YR M y rs) (h0 : M'.1 y = M.1 y) (h1 : M'.1 (y + 1) = M.1 (y + 1)) (h2 : M'.1 (y + 2) = M.1 (y + 2)) (h3 : M'.1 (y + 3) = M.1 (y + 3)) (h4 : M'.1 (y + 4) = M.1 (y + 4)) : f_YR M' y rs := by
  obtain ⟨a, b, c, d⟩ := h
  refine ⟨a, b, by rw [h0]; exact c, fun r q hq => ?_⟩
  obtain ⟨d1, d2, d3, d4, d5, d6⟩ := d r q hq
  exact ⟨by rw [h1]; exact d1, by rw [h2]; exact d2, d3, by rw [h3]; exact d4, d5, fun j t hj => by rw [h4]; exact d6 j t hj⟩
theorem f_CX.cg {o : Nat} {s : fCo} {M M' : fMem} (h : f_CX o s M) (hc : ∀ c, 1 ≤ c → c ≤ 13 → M'.1 (c + o) = M.1 (c + o)) : f_CX o s M' := by
  obtain ⟨⟨a1, a2, a3, a4, a5, a6, a7, a8⟩, ⟨b1, b2, b3, b4, b5, b6, b7⟩, c1, c2, c3⟩ := h
  have e : ∀ c, 1 ≤ c → c ≤ 13 → ∀ i, M'.1 (c + o) i = M.1 (c + o) i := fun c h1 h2 i => by rw [hc c h1 h2]
  refine ⟨⟨by rw [e 1 (by omega) (by omega)]; exact a1, by rw [e 1 (by omega) (by omega)]; exact a2, by rw [e 1 (by omega) (by omega)]; exact a3, by rw [e 1 (by omega) (by omega)]; exact a4, by rw [e 1 (by omega) (by omega)]; exact a5, by rw [e 1 (by omega) (by omega)]; exact a6, by rw [e 1 (by omega) (by omega)]; exact a7, by rw [e 1 (by omega) (by omega)]; exact a8⟩, ⟨fun i hi => by rw [e 2 (by omega) (by omega)]; exact b1 i hi, fun i hi => by rw [e 3 (by omega) (by omega)]; exact b2 i hi, fun i hi => by rw [e 4 (by omega) (by omega)]; exact b3 i hi, fun i hi => by rw [e 10 (by omega) (by omega)]; exact b4 i hi, fun i hi => by rw [e 11 (by omega) (by omega)]; exact b5 i hi, fun i hi => by rw [e 12 (by omega) (by omega)]; exact b6 i hi, fun i hi => by rw [e 13 (by omega) (by omega)]; exact b7 i hi⟩, by rw [e 5 (by omega) (by omega)]; exact c1, by rw [e 5 (by omega) (by omega)]; exact c2, ?_⟩
  refine c3.cg (hc 5 (by omega) (by omega)) ?_ ?_ ?_ ?_
  · have := hc 6 (by omega) (by omega); rw [show 5 + o + 1 = 6 + o by omega]; exact this
  · have := hc 7 (by omega) (by omega); rw [show 5 + o + 2 = 7 + o by omega]; exact this
  · have := hc 8 (by omega) (by omega); rw [show 5 + o + 3 = 8 + o by omega]; exact this
  · have := hc 9 (by omega) (by omega); rw [show 5 + o + 4 = 9 + o by omega]; exact this
theorem f_RX.cg {s : fSt} {M M' : fMem} (h : f_RX s M) (hc : ∀ c, c < 27 ∨ c = 42 ∨ c = 52 ∨ c = 53 → M'.1 c = M.1 c) : f_RX s M' := by
  obtain ⟨h1, h2, h3, ⟨h4, h5⟩, h6⟩ := h
  refine ⟨h1.cg (fun c _ _ => hc _ (Or.inl (by omega))), by rw [hc 0 (by omega)]; exact h2, fun k hk => (h3 k hk).cg (fun c _ _ => hc _ (Or.inl (by omega))), ⟨by rw [hc 52 (by omega)]; exact h4, fun i y hi hy => by rw [hc 53 (by omega)]; exact h5 i y hi hy⟩, fun i hi => by rw [hc 42 (by omega)]; exact h6 i hi⟩
theorem f_RX.ex {s : fSt} {M M' : fMem} {cs ds : List Nat} (h : f_RX s M) (he : f_ex cs ds M M') (hd : ∀ c ∈ cs, 27 ≤ c ∧ c ≠ 42 ∧ c ≠ 52 ∧ c ≠ 53) : f_RX s M' := h.cg (fun c hc => he.1 c (fun q => by have := hd c q; omega))
def f_n (z : Int32) : Nat := z.toInt.toNat
theorem f_nn {z : Int32} (h : 0 ≤ z) : nI (f_n z) = z := by
  rw [Int32.le_iff_toInt_le, Int32.toInt_zero] at h
  have h2 := Int32.toInt_lt z
  refine Int32.toInt_inj.mp ?_
  unfold f_n
  rw [nI_toInt (by omega)]
  omega
theorem f_n_lt (z : Int32) : f_n z < 2 ^ 31 := f_toNat_lt z
theorem f_nlt {z : Int32} {k : Nat} (h : 0 ≤ z) (h2 : z < nI k) (hk : k < 2 ^ 31) : f_n z < k := by
  rw [← f_nn h] at h2
  exact (nI_ltI (f_n_lt z) hk).mp h2
theorem f_nle {z : Int32} {k : Nat} (h : 0 ≤ z) (h2 : z ≤ nI k) (hk : k < 2 ^ 31) : f_n z ≤ k := by
  rw [← f_nn h] at h2
  exact (nI_leI (f_n_lt z) hk).mp h2
theorem f_nge {z : Int32} {k : Nat} (h : nI k ≤ z) (hk : k < 2 ^ 31) : k ≤ f_n z := by
  have h0 : 0 ≤ z := Int32.le_trans (nI_pos' hk) h
  rw [← f_nn h0] at h
  exact (nI_leI hk (f_n_lt z)).mp h
theorem f_n_nI {k : Nat} (h : k < 2 ^ 31) : f_n (nI k) = k := by
  unfold f_n
  rw [nI_toInt h]; rfl
/-- there is such a breaker -/
def f_ng (b : Int32) (s : fSt) : Bool := decide (0 ≤ b ∧ b < nI (s.1.1 0 0))
def f_pt1 (p : Int32) : Bool := decide (p = 0 ∨ p = 1)
def f_mb (c : fCo) (b : Nat) : Nat → Nat := f_may c.2.2.2.2 c.2.2.1 (c.1 1 b) (c.1 2 b) (fun j => c.1 3 (b * 4 + j))
def f_iv (v : Int32) (s : fSt) : Value × fSt := (.int v, s)
def f_lv (v : Int64) (s : fSt) : Value × fSt := (.long v, s)
def f_NO : Int64 := -9223372036854775808
def p_feed (s : fSt) (x : Int32) : Value × fSt := if x < 0 ∨ 127 < x then f_iv (-2) s else if 100 ≤ s.1.1 0 3 then f_iv (-4) s else f_iv (nI (s.1.1 0 3 + 1)) (f_su (f_su s.1 4 (s.1.1 0 3) (f_n x)) 0 3 (s.1.1 0 3 + 1), s.2)
def p_yard (s : fSt) : Value × fSt := if 5 ≤ s.1.1 0 1 then f_iv (-4) s else if (f_yrd (s.1.1 4) (s.1.1 0 3)).1 = true then f_iv (nI (s.1.1 0 1)) (((f_su (f_su (f_su s.1 0 3 0) 0 2 0) 0 1 (s.1.1 0 1 + 1)).1, 0, (f_yrd (s.1.1 4) (s.1.1 0 3)).2.2), s.2) else f_iv (-10 - nI (f_yrd (s.1.1 4) (s.1.1 0 3)).2.1) (f_su s.1 0 3 0, s.2)
def p_breaker (s : fSt) (k v : Int32) : Value × fSt := if k < 0 ∨ 7 ≤ k then f_iv (-1) s else if v < 0 ∨ 9 < v then f_iv (-2) s else if 6 ≤ s.1.1 0 0 then f_iv (-4) s else f_iv (nI (s.1.1 0 0)) (f_su (f_su (f_su (f_su (f_su (f_su (f_su s.1 1 (s.1.1 0 0) (f_n k)) 2 (s.1.1 0 0) (f_n v)) 3 (s.1.1 0 0 * 4) 0) 3 (s.1.1 0 0 * 4 + 1) 0) 3 (s.1.1 0 0 * 4 + 2) 0) 3 (s.1.1 0 0 * 4 + 3) 0) 0 0 (s.1.1 0 0 + 1), s.2)
def f_nth (S : Nat) : Nat → Nat → Nat → Nat
  | 0, j, _ => j
  | n + 1, j, k => if S.testBit j = true then (if k = 0 then j else f_nth S n (j + 1) (k - 1)) else f_nth S n (j + 1) k
def f_place (S : Nat) (k : Int32) : Int32 := if 0 ≤ k ∧ k < nI (f_pc S) then nI (f_nth S 17 0 (f_n k)) else -1
def p_of (s : fSt) (b w : Int32) : Value × fSt := if f_ng b s = false then f_iv (-1) s else if w = 0 then f_iv (nI (s.1.1 1 (f_n b))) s else if w = 1 then f_iv (nI (s.1.1 2 (f_n b))) s else if w ≠ 2 ∧ w < 10 then f_iv (-1) s else if w = 2 then f_iv (nI (f_pc (f_mb s.1 (f_n b) (s.1.1 0 2)))) s else f_iv (f_place (f_mb s.1 (f_n b) (s.1.1 0 2)) (w - 10)) s
def p_row (s : fSt) (b k n : Int32) : Value × fSt := if f_ng b s = false ∨ k < 0 ∨ 4 ≤ k then f_iv (-1) s else if n < 0 ∨ 9 < n then f_iv (-2) s else if s.1.1 1 (f_n b) ≠ 6 then f_iv (-3) s else f_iv (nI (s.1.1 3 (f_n b * 4 + f_n k))) (f_su s.1 3 (f_n b * 4 + f_n k) (f_n n), s.2)
def p_told (s : fSt) (w : Int32) : Value × fSt := if w = 0 then f_iv (nI s.1.2.2.1) s else if w = 1 then f_iv (nI s.1.2.2.2.1) s else if w = 2 then f_iv (nI (f_pc (s.1.1 0 2) + 1)) s else if w = 3 then f_iv s.1.2.1 s else f_iv (-1) s
def f_pc0 (L br : Nat) : List (Nat × Nat) := f_pcs L br L 1 0
def p_piece (s : fSt) (k : Int32) : Value × fSt := if 0 ≤ k ∧ k < nI (f_pc0 s.1.2.2.1 (s.1.1 0 2)).length then f_iv (nI (((f_pc0 s.1.2.2.1 (s.1.1 0 2)).getD (f_n k) (0, 0)).2 - ((f_pc0 s.1.2.2.1 (s.1.1 0 2)).getD (f_n k) (0, 0)).1)) s else f_iv (-1) s
def f_drw (S : Nat) (d : Int32) : Nat := f_nth S 17 0 (f_n d % f_pc S)
def p_breaks (s : fSt) (b d : Int32) : Value × fSt := if f_ng b s = false then f_iv (-1) s else if d < 0 ∨ 99 < d then f_iv (-2) s else if f_pc (f_mb s.1 (f_n b) (s.1.1 0 2)) = 0 then f_iv (-3) s else f_iv (nI (f_drw (f_mb s.1 (f_n b) (s.1.1 0 2)) d)) (((f_su s.1 0 2 (s.1.1 0 2 ||| 2 ^ f_drw (f_mb s.1 (f_n b) (s.1.1 0 2)) d)).1, s.1.2.1 + nI (f_price s.1.2.2.2.2 s.1.2.2.1 (s.1.1 1 (f_n b)) (s.1.1 0 2) (2 ^ f_drw (f_mb s.1 (f_n b) (s.1.1 0 2)) d)), s.1.2.2), s.2)
def p_whole (s : fSt) : Value × fSt := f_iv (nI (f_pc (s.1.1 0 2) + 1)) (((f_su s.1 0 2 0).1, 0, s.1.2.2), s.2)
def p_shape (s : fSt) (w : Int32) : Value × fSt := if w = 0 then f_iv (f_b (f_clo (f_shp s.1.2.2.1 (s.1.1 0 2)) s.1.2.2.1)) s else if w = 1 then f_iv (f_b (f_sqr (f_shp s.1.2.2.1 (s.1.1 0 2)))) s else if w = 2 then f_iv (f_b (f_blu (f_shp s.1.2.2.1 (s.1.1 0 2)) s.1.2.2.1)) s else if w = 3 then f_iv (nI (f_ll (f_shp s.1.2.2.1 (s.1.1 0 2)))) s else if w = 4 then f_iv (nI ((f_shp s.1.2.2.1 (s.1.1 0 2)).getD 0 0)) s else f_iv (-1) s
def f_dpc (c : fCo) (b : Nat) : (Nat → Nat) × Nat := f_dp (f_mb c b) (f_price c.2.2.2.2 c.2.2.1 (c.1 1 b)) (f_tot (f_mb c b)) (f_base c.2.2.2.1)
def p_likely (s : fSt) (b w n p : Int32) : Value × fSt := if f_ng b s = false ∨ w < 0 ∨ 6 < w ∨ n < 0 ∨ 99 < n ∨ f_pt1 p = false then f_lv f_NO s else f_lv (f_part (f_wsum (f_dpc s.1 (f_n b)).1 (fun S => if f_fit (f_shp s.1.2.2.1 S) s.1.2.2.1 (f_n w) (f_n n) = true then 1 else 0) 697) (f_tot (f_mb s.1 (f_n b))) p) s
def p_mean (s : fSt) (b k p : Int32) : Value × fSt := if f_ng b s = false ∨ k < 0 ∨ 3 < k ∨ f_pt1 p = false then f_lv f_NO s else f_lv (f_part (f_wsum (f_dpc s.1 (f_n b)).1 (fun S => (f_shp s.1.2.2.1 S).getD (f_n k) 0) 697) (f_tot (f_mb s.1 (f_n b))) p) s
def p_costs (s : fSt) (b p : Int32) : Value × fSt := if f_ng b s = false ∨ f_pt1 p = false then f_lv f_NO s else f_lv (f_part (f_dpc s.1 (f_n b)).2 (f_tot (f_mb s.1 (f_n b))) p) s
def p_until (s : fSt) (m p : Int32) : Value × fSt := if m < 1 ∨ 16 < m ∨ f_pt1 p = false then f_lv f_NO s else if f_n m < s.1.2.2.1 then f_lv (f_part (2 * s.1.2.2.1) (f_n m + 1) p) s else f_lv 1 s
def p_hidden (s : fSt) (n a k p : Int32) : Value × fSt := if n < 3 ∨ 10 < n ∨ a < 1 ∨ n < a ∨ k < 1 ∨ 6 < k ∨ f_pt1 p = false then f_lv f_NO s else f_lv (f_part (f_cvg (f_n n) (f_n a) (f_n k)) (f_n n ^ f_n k) p) s
def p_box (s : fSt) (l : Int32) : Value × fSt := if l = -1 then f_iv 0 (f_su s.1 0 4 0, s.2) else if l < 1 ∨ 99 < l then f_iv (-2) s else if 10 ≤ s.1.1 0 4 then f_iv (-4) s else f_iv (nI (s.1.1 0 4 + 1)) (f_su (f_su s.1 5 (s.1.1 0 4) (f_n l)) 0 4 (s.1.1 0 4 + 1), s.2)
def p_triangles (s : fSt) : Value × fSt := f_iv (nI (f_tri (s.1.1 5) (s.1.1 0 4))) s
def p_drawn (s : fSt) (p : Int32) : Value × fSt := if s.1.1 0 4 < 3 ∨ f_pt1 p = false then f_lv f_NO s else f_lv (f_part (f_tri (s.1.1 5) (s.1.1 0 4)) (s.1.1 0 4 * (s.1.1 0 4 - 1) * (s.1.1 0 4 - 2) / 6) p) s
def p_none (s : fSt) (w : Int32) : Value × fSt := if w ≠ 0 ∧ w ≠ 1 then f_iv (-1) s else if w = 0 then f_iv (nI (f_pc (f_mu (s.1.1 5) (s.1.1 0 4)))) s else f_iv (nI (f_mu (s.1.1 5) (s.1.1 0 4))) s
def f_str (m : Nat) : Nat → Nat → Nat → Nat → Nat
  | 0, _, _, k => k
  | n + 1, a, b, k => if a ≤ m then f_str m n b (a + b) (k + 1) else k
def p_stair (s : fSt) (m : Int32) : Value × fSt := if m < 1 ∨ 999 < m then f_iv (-2) s else f_iv (nI (f_str (f_n m) 999 1 2 0)) s
def f_swn (p L : Nat) : fSw := f_sw p p L L (fun _ => 0) (0, fun _ => 0)
def p_sawn (s : fSt) (p k : Int32) : Value × fSt := if k < -1 ∨ 6 ≤ k then f_iv (-1) s else if p < 3 ∨ 6 < p then f_iv (-2) s else if nI s.1.2.2.1 < p ∨ p ≤ k then f_iv (-5) s else if k = -1 then f_iv (f_pm (f_swn (f_n p) s.1.2.2.1).1) s else f_iv ((f_swn (f_n p) s.1.2.2.1).2 (f_n k)) s
def p_see (s : fSt) (l : Int32) : Value × fSt := if l = -1 then f_iv 0 (f_su s.1 0 5 0, s.2) else if l < 1 ∨ 17 < l then f_iv (-2) s else if 4 ≤ s.1.1 0 5 then f_iv (-4) s else f_iv (nI (s.1.1 0 5 + 1)) (f_su (f_su s.1 6 (s.1.1 0 5) (f_n l)) 0 5 (s.1.1 0 5 + 1), s.2)
def f_flw (c : fCo) (b : Nat) : Nat × Nat := f_fol (f_mb c b) c.2.2.1 c.2.2.2.1 (c.1 6) (c.1 0 5)
def f_fw (c : fCo) (b : Nat) : Nat := max 1 (f_pc (f_mb c b 0))
def p_orders (s : fSt) (b : Int32) : Value × fSt := if f_ng b s = false then f_iv (-1) s else f_iv (nI (f_flw s.1 (f_n b)).1) s
def p_chance (s : fSt) (b p : Int32) : Value × fSt := if f_ng b s = false ∨ f_pt1 p = false then f_lv f_NO s else f_lv (f_part (f_flw s.1 (f_n b)).2 (f_tot (f_mb s.1 (f_n b))) p) s
def f_insr (a : Nat → Nat) (p v : Nat) : Nat → Nat := fun i => if i < p then a i else if i = p then v else a (i - 1)
def f_lst (c : fCo) (b : Nat) : Nat := f_bits (c.1 0 5 + 1) (fun p => decide (0 < (f_fol (f_mb c b) c.2.2.1 c.2.2.2.1 (f_insr (c.1 6) p (c.2.2.1 - f_sm (c.1 0 5) (c.1 6))) (c.1 0 5 + 1)).1))
def p_lost (s : fSt) (b : Int32) : Value × fSt := if f_ng b s = false then f_iv (-1) s else if s.1.2.2.1 ≤ f_sm (s.1.1 0 5) (s.1.1 6) ∨ 4 ≤ s.1.1 0 5 then f_iv 0 s else f_iv (nI (f_lst s.1 (f_n b))) s
def p_who (s : fSt) : Value × fSt := f_iv (nI (f_bits (s.1.1 0 0) (fun b => decide (0 < (f_flw s.1 b).1)))) s
def f_cwt (c : fCo) (b : Nat) : Nat := (f_flw c b).2 * (720720 / f_fw c b)
def f_lkl (w : Nat → Nat) : Nat → Nat × Int32
  | 0 => (0, -5)
  | b + 1 => if (f_lkl w b).1 < w b then (w b, nI b) else f_lkl w b
def p_likeliest (s : fSt) : Value × fSt := f_iv (f_lkl (f_cwt s.1) (s.1.1 0 0)).2 s
def p_book (s : fSt) (a b c d : Int32) : Value × fSt := if a = -1 then f_iv 0 (f_su s.1 0 6 0, s.2) else if ¬ (1 ≤ a ∧ a ≤ 99) ∨ ¬ (1 ≤ b ∧ b ≤ 99) ∨ ¬ (1 ≤ c ∧ c ≤ 99) then f_iv (-2) s else if 8 ≤ s.1.1 0 6 then f_iv (-4) s else f_iv (nI (s.1.1 0 6 + 1)) (f_su (f_su (f_su (f_su (f_su s.1 7 (s.1.1 0 6 * 4) (f_n a)) 7 (s.1.1 0 6 * 4 + 1) (f_n b)) 7 (s.1.1 0 6 * 4 + 2) (f_n c)) 7 (s.1.1 0 6 * 4 + 3) (if d = 0 then 0 else 1)) 0 6 (s.1.1 0 6 + 1), s.2)
def f_lok (g : Nat → Nat) : Nat → Nat → Int32
  | 0, _ => -5
  | n + 1, i => if f_clz (g (i * 4)) (g (i * 4 + 1)) (g (i * 4 + 2)) = decide (g (i * 4 + 3) = 1) then f_lok g n (i + 1) else nI i
def p_looked (s : fSt) : Value × fSt := f_iv (f_lok (s.1.1 7) (s.1.1 0 6) 0) s
def p_act (s : fSt) (b a x : Int32) : Value × fSt := if f_ng b s = false ∨ a < 0 ∨ 2 < a then f_iv 0 (s.1, s.2.1, []) else f_iv (f_rn (s.1.1 1 (f_n b)) (nI (s.1.1 2 (f_n b))) b 41 (f_n a) (s.1.1 1 (f_n b)) x).1 (s.1, s.2.1, (f_rn (s.1.1 1 (f_n b)) (nI (s.1.1 2 (f_n b))) b 41 (f_n a) (s.1.1 1 (f_n b)) x).2)
def p_trace (s : fSt) (i : Int32) : Value × fSt := if 0 ≤ i ∧ i < nI s.2.2.length then f_iv (nI (s.2.2.getD (f_n i) 0)) s else f_iv (-1) s
def f_und (kd k : Nat) : Bool := decide (k = 0 ∨ k = kd ∨ (0 < k ∧ k < 4 ∧ kd = k + 3))
def p_as (s : fSt) (b k : Int32) : Value × fSt := if f_ng b s = false ∨ k < 0 ∨ 7 ≤ k then f_iv (-1) s else if f_und (s.1.1 1 (f_n b)) (f_n k) = true then f_iv (nI (s.1.1 2 (f_n b))) s else f_iv (-6) s
def p_image (s : fSt) : Value × fSt := f_iv (nI (s.1.1 0 0)) (s.1, some s.1, s.2.2)
def p_undo (s : fSt) : Value × fSt := match s.2.1 with
  | none => f_iv (-3) s
  | some k => f_iv (nI (k.1 0 0)) (k, some k, s.2.2)
def p_count (s : fSt) (w : Int32) : Value × fSt := if w = 0 then f_iv (nI (s.1.1 0 0)) s else if w = 1 then f_iv (nI (s.1.1 0 1)) s else if w = 2 then f_iv (nI (s.1.1 0 4)) s else if w = 3 then f_iv (nI (s.1.1 0 5)) s else if w = 4 then f_iv (nI (s.1.1 0 6)) s else if w = 5 then f_iv (nI (s.1.1 0 3)) s else if w = 6 then f_iv (nI s.2.2.length) s else f_iv (-1) s
/-- a call of the class, told by what it answers -/
def f_xK (s : fSt) (r : Value × fSt) (G : fG) (M : fMem) (R : fR) : Prop := G = f_GX ∧ f_SW s ∧ f_RX s M ∧ ∀ M', f_RX r.2 M' → R G (some r.1) M'
def f_x0 (p : fSt → Value × fSt) : fSp := fun G As M R => match As with
  | [.ref 0] => ∃ s, f_xK s (p s) G M R
  | _ => False
def f_x1 (p : fSt → Int32 → Value × fSt) : fSp := fun G As M R => match As with
  | [.ref 0, .int a] => ∃ s, f_xK s (p s a) G M R
  | _ => False
def f_x2 (p : fSt → Int32 → Int32 → Value × fSt) : fSp := fun G As M R => match As with
  | [.ref 0, .int a, .int b] => ∃ s, f_xK s (p s a b) G M R
  | _ => False
def f_x3 (p : fSt → Int32 → Int32 → Int32 → Value × fSt) : fSp := fun G As M R => match As with
  | [.ref 0, .int a, .int b, .int c] => ∃ s, f_xK s (p s a b c) G M R
  | _ => False
def f_x4 (p : fSt → Int32 → Int32 → Int32 → Int32 → Value × fSt) : fSp := fun G As M R => match As with
  | [.ref 0, .int a, .int b, .int c, .int d] => ∃ s, f_xK s (p s a b c d) G M R
  | _ => False
