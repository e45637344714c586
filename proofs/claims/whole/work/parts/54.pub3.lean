/-! ===== public methods: piece, breaks, shape, likely, mean, costs ===== -/
theorem f_pof {u v : Nat} {p : Int32} {G : fG} {M : fMem} {R : fR} (hu : u < 2 ^ 63) (h0 : 0 < v) (hv : v < 2 ^ 63) (h : R G (some (.long (f_part u v p))) M) : 0 ≤ (lN u).toInt ∧ 0 < (lN v).toInt ∧ R G (some (.long (f_part (lN u).toInt.toNat (lN v).toInt.toNat p))) M := by
  rw [pk_lT hu, pk_lT hv]
  exact ⟨by omega, by omega, h⟩
theorem f_cnt_in {P : Nat → Bool} {f t : Nat} (hft : f < t) (h : ∀ x, P x = true → f < x ∧ x < t) : ∀ n, f_cnt n P + min n (f + 1) ≤ min n t := by
  intro n
  induction n with
  | zero => exact Nat.le_refl _
  | succ n ih =>
    show f_cnt n P + (if P n = true then 1 else 0) + min (n + 1) (f + 1) ≤ min (n + 1) t
    by_cases hp : P n = true
    · rw [if_pos hp]
      have := h n hp
      omega
    · rw [if_neg hp]
      by_cases h1 : n < f + 1
      · omega
      · omega
theorem f_prs_in {rs : List fRl} {f t c k ins : Nat} (hft : f < t) (hi : ∀ x, ins.testBit x = true → f < x ∧ x < t) (h : ∀ q ∈ rs, q.2.1 < 100) : f_prs rs f t c k ins ≤ rs.length * (99 * (t - f)) := by
  unfold f_prs
  refine f_sum_le rs _ _ (fun q hq => ?_)
  unfold f_prt
  split
  · have h1 := h q hq
    have h2 : f_pc (f_hb q.2.2 f t c k &&& ins) ≤ t - f := by
      have := f_cnt_in (P := fun x => (f_hb q.2.2 f t c k &&& ins).testBit x) hft (fun x hx => by
        rw [Nat.testBit_and, Bool.and_eq_true] at hx
        exact hi x hx.2) 17
      unfold f_pc
      omega
    exact Nat.mul_le_mul (by omega) h2
  · exact Nat.zero_le _
theorem f_pcs_sum (L br b : Nat) (g : Nat × Nat → Nat) (hg : ∀ q : Nat × Nat, q.1 < q.2 → g q ≤ b * (q.2 - q.1)) : ∀ (n p f : Nat), p + n ≤ L + 1 → f < p → ((f_pcs L br n p f).map g).sum + b * f ≤ b * L := by
  intro n
  induction n with
  | zero =>
    intro p f hp hf
    show 0 + b * f ≤ b * L
    rw [Nat.zero_add]
    exact Nat.mul_le_mul_left _ (by omega)
  | succ n ih =>
    intro p f hp hf
    unfold f_pcs
    split
    · rw [List.map_cons, List.sum_cons]
      have h1 := ih (p + 1) p (by omega) (by omega)
      have h2 := hg (f, p) hf
      have h3 : b * (p - f) + b * f = b * p := by rw [← Nat.mul_add]; congr 1; omega
      have h2 : g (f, p) ≤ b * (p - f) := h2
      omega
    · exact ih (p + 1) f (by omega) (by omega)
theorem f_price_le {rs : List fRl} {L kd br N : Nat} (hL : L ≤ 17) (hr : rs.length ≤ 10) (h : ∀ q ∈ rs, q.2.1 < 100) : f_price rs L kd br N ≤ 16830 := by
  have := f_pcs_sum L br 990 (fun q => f_prc rs q.1 q.2 (f_pc br) kd N) (fun q hq => by
    have h1 := f_prs_in (c := f_pc br) (k := kd) (ins := N &&& f_inb q.1 q.2) hq (fun x hx => by
      rw [Nat.testBit_and, Bool.and_eq_true] at hx
      have h2 := hx.2
      unfold f_inb at h2
      rw [f_bits_test, Bool.and_eq_true, decide_eq_true_eq, decide_eq_true_eq] at h2
      exact ⟨h2.2, h2.1⟩) h
    have h3 : rs.length * (99 * (q.2 - q.1)) ≤ 10 * (99 * (q.2 - q.1)) := Nat.mul_le_mul_right _ hr
    show f_prs rs q.1 q.2 (f_pc br) kd (N &&& f_inb q.1 q.2) ≤ 990 * (q.2 - q.1)
    omega) L 1 0 (by omega) (by omega)
  unfold f_price
  omega
theorem f_dp_spent {may : Nat → Nat} {pr : Nat → Nat → Nat} {T c B : Nat} (hc : c ≤ 3) (hm : ∀ S, may S < 2 ^ 17) (hp : ∀ S N, pr S N ≤ B) : ∀ n, n ≤ f_base c → (f_dp may pr T n).2 ≤ n * (T * B) := by
  intro n
  induction n with
  | zero => intro _; exact Nat.zero_le _
  | succ n ih =>
    intro hn
    have h1 := ih (by omega)
    have h2 := f_dp_sum (pr := pr) (T := T) hc hm n (by omega)
    have hb : f_base c ≤ 137 := by unfold f_base; split <;> (try split) <;> (try split) <;> omega
    have h3 := f_sm_ge (f_dp may pr T n).1 697 n (by omega)
    show (f_dst may pr n (f_dp may pr T n)).2 ≤ _
    rw [Nat.succ_mul]
    unfold f_dst
    split
    · omega
    · show (f_dp may pr T n).2 + (f_dp may pr T n).1 n / f_pc (may (f_set n)) * pr (f_set n) (may (f_set n)) ≤ _
      have h4 : (f_dp may pr T n).1 n / f_pc (may (f_set n)) * pr (f_set n) (may (f_set n)) ≤ T * B := Nat.mul_le_mul (Nat.le_trans (Nat.div_le_self _ _) (by omega)) (hp _ _)
      omega
theorem f_wsum_le {w g : Nat → Nat} {b : Nat} (hg : ∀ S, g S ≤ b) : ∀ n, f_wsum w g n ≤ b * f_sm n w := by
  intro n
  induction n with
  | zero => exact Nat.zero_le _
  | succ n ih =>
    show f_wsum w g n + (if w n = 0 then 0 else w n * g (f_set n)) ≤ b * (f_sm n w + w n)
    rw [Nat.mul_add]
    split
    · omega
    · have := Nat.mul_le_mul_left (w n) (hg (f_set n))
      rw [Nat.mul_comm (w n) b] at this
      omega
theorem f_tot_b {c : fCo} {b : Nat} : 0 < f_tot (f_mb c b) ∧ f_tot (f_mb c b) ≤ 17 * f_U := by
  have h : f_pc (f_mb c b 0) ≤ 17 := f_cnt_le _ 17
  unfold f_tot
  refine ⟨Nat.mul_pos (by decide) (by omega), ?_⟩
  rw [Nat.mul_comm]
  exact Nat.mul_le_mul_right _ (by omega)
theorem f_base_le (c : Nat) : f_base c ≤ 137 := by unfold f_base; split <;> (try split) <;> (try split) <;> omega
theorem f_dpc_b {s : fSt} (hS : f_SW s) (b : Nat) : f_sm 697 (f_dpc s.1 b).1 ≤ 17 * f_U ∧ (∀ i, i < 697 → (f_dpc s.1 b).1 i < 2 ^ 63) ∧ (f_dpc s.1 b).2 < 2 ^ 63 := by
  have h1 := f_dp_sum (may := f_mb s.1 b) (pr := f_price s.1.2.2.2.2 s.1.2.2.1 (s.1.1 1 b)) (T := f_tot (f_mb s.1 b)) hS.c3 (fun S => f_mb_lt hS b S) _ (Nat.le_refl _)
  have h2 := (f_tot_b (c := s.1) (b := b)).2
  have hyo := hS.1.2.2.2.2.2.2.2.2.2
  obtain ⟨o1, o2, o3, o4, o5, o6, o7⟩ := hyo
  have h3 := f_dp_spent (may := f_mb s.1 b) (pr := f_price s.1.2.2.2.2 s.1.2.2.1 (s.1.1 1 b)) (T := f_tot (f_mb s.1 b)) hS.c3 (fun S => f_mb_lt hS b S) (fun S N => f_price_le hS.L17 o5 (fun q hq => (o7 q hq).1)) _ (Nat.le_refl _)
  have h4 := f_base_le s.1.2.2.2.1
  have h5 : f_base s.1.2.2.2.1 * (f_tot (f_mb s.1 b) * 16830) ≤ 137 * (17 * f_U * 16830) := Nat.mul_le_mul h4 (Nat.mul_le_mul_right _ h2)
  unfold f_dpc
  unfold f_U at *
  refine ⟨by omega, fun i hi => ?_, by omega⟩
  have := f_sm_ge (f_dp (f_mb s.1 b) (f_price s.1.2.2.2.2 s.1.2.2.1 (s.1.1 1 b)) (f_tot (f_mb s.1 b)) (f_base s.1.2.2.2.1)).1 697 i hi
  omega
theorem f_RX.spr {s : fSt} {M : fMem} {b : Int32} {R : fR} (hR : f_RX s M) (hS : f_SW s) (hb : f_ng b s = true) (hk : ∀ M', f_RX s M' → f_WT M' (f_dpc s.1 (f_n b)).1 → M'.2 41 5 = lN (f_tot (f_mb s.1 (f_n b))) → M'.2 41 6 = lN (f_dpc s.1 (f_n b)).2 → R f_GX none M') : S_spread f_GX [.ref 41, .int b] M R := by
  obtain ⟨b1, b2, b3⟩ := f_ng_t hS hb
  exact ⟨s.1.2.2.2.2, s.1.2.2.1, f_n b, _, _, _, s.1.2.2.2.1, rfl, b3.symm, hR.yh hS, hR.bkr hS b2, hR.ct, hS.c1, hS.c3, hR.2.2.2.2, fun M' he h1 h2 h3 => hk M' (hR.scr he (by decide)) h1 h2 h3⟩
theorem f_pt1_b {p : Int32} : decide (p = 0 ∨ p = 1) = f_pt1 p := rfl
set_option maxRecDepth 20000 in
theorem m_x_likely : f_Meets 5 (kX11_likely S_isB S_isP S_spread S_wgt S_partOf) (f_x4 p_likely) := by
  intro G As M R hsp X hX hW
  match As, hsp with
  | [.ref 0, .int b, .int w, .int n, .int p], ⟨s, hG, hS, hR, hsp⟩ =>
    subst hG
    unfold p_likely at hsp
    have bad : (f_ng b s = false ∨ w < 0 ∨ 6 < w ∨ n < 0 ∨ 99 < n ∨ f_pt1 p = false) → X f_GX 36 [some (.ref 0), some (.int b), some (.int w), some (.int n), some (.int p)] [] M := by
      intro h
      rw [if_pos h] at hsp
      exact f_run_ok (stop := fun _ => false) hX 10 _ _ _ _ _ (hsp M hR)
    refine f_run_ok (stop := fun q => Nat.beq q 36 || Nat.beq q 40) hX 40 _ _ _ _ _ ?_
    refine ⟨rfl, ?_⟩
    rw [f_ng_b hR]
    cases hb : f_ng b s with
    | false => exact And.intro (fun _ => bad (Or.inl hb)) (fun z => absurd rfl z)
    | true =>
      obtain ⟨b1, b2, b3⟩ := f_ng_t hS hb
      refine And.intro (fun z => absurd z (by decide)) (fun _ => ?_)
      refine And.intro (fun h => bad (Or.inr (Or.inl h))) (fun h => ?_)
      refine And.intro (fun h2 => bad (Or.inr (Or.inr (Or.inl h2)))) (fun h2 => ?_)
      refine And.intro (fun h3 => bad (Or.inr (Or.inr (Or.inr (Or.inl h3))))) (fun h3 => ?_)
      refine And.intro (fun h4 => bad (Or.inr (Or.inr (Or.inr (Or.inr (Or.inl h4)))))) (fun h4 => ?_)
      refine And.intro (fun hz => bad (Or.inr (Or.inr (Or.inr (Or.inr (Or.inr ((f_b0 (c := f_pt1 p)).mp hz))))))) (fun hz => ?_)
      have hp : f_pt1 p = true := f_b_nt (c := f_pt1 p) hz
      ·
        rw [if_neg (by rw [hb, hp]; exact fun z => z.elim (by decide) (fun z => z.elim h (fun z => z.elim h2 (fun z => z.elim h3 (fun z => z.elim h4 (by decide))))))] at hsp
        have hw0 : 0 ≤ w := Int32.not_lt.mp h
        have hn0 : 0 ≤ n := Int32.not_lt.mp h3
        have hw6 := f_nle (k := 6) hw0 (Int32.not_lt.mp h2) (by omega)
        have hn99 := f_nle (k := 99) hn0 (Int32.not_lt.mp h4) (by omega)
        obtain ⟨d1, d2, d3⟩ := f_dpc_b hS (f_n b)
        have ht := f_tot_b (c := s.1) (b := f_n b)
        refine f_run_ok (stop := fun q => Nat.beq q 48) hX 20 _ _ _ _ _ ?_
        obtain ⟨a1, a2, a3, a4, a5, a6, a7, a8, a9, a10, a11, a12, a13, a14, a15, a16⟩ := hR.spr (R := fun G' v M' => X G' 48 [some (.ref 0), some (.int b), some (.int w), some (.int n), some (.int p)] (f_ans v []) M') hS hb (fun M1 r1 w1 t1 s1 => by
          refine f_run_ok (stop := fun q => Nat.beq q 66) hX 20 _ _ _ _ _ ?_
          refine ⟨s.1.2.2.1, f_n w, f_n n, (f_dpc s.1 (f_n b)).1, rfl, (f_nn hw0).symm, by omega, (f_nn hn0).symm, by omega, r1.ln, by have := hS.L2; omega, hS.L17, r1.2.2.2.2, w1, d2, fun M2 he2 => ?_⟩
          have r2 := r1.scr he2 (by decide)
          have hu : f_wsum (f_dpc s.1 (f_n b)).1 (fun S => if f_fit (f_shp s.1.2.2.1 S) s.1.2.2.1 (f_n w) (f_n n) = true then 1 else 0) 697 < 2 ^ 63 := by
            have := f_wsum_le (w := (f_dpc s.1 (f_n b)).1) (g := fun S => if f_fit (f_shp s.1.2.2.1 S) s.1.2.2.1 (f_n w) (f_n n) = true then 1 else 0) (b := 1) (fun S => by show (if _ then 1 else 0) ≤ 1; split <;> omega) 697
            unfold f_U at d1
            omega
          show X f_GX 66 [some (.ref 0), some (.int b), some (.int w), some (.int n), some (.int p)] [.int p, .long (M2.2 41 5), .long (lN (f_wsum (f_dpc s.1 (f_n b)).1 (fun S => if f_fit (f_shp s.1.2.2.1 S) s.1.2.2.1 (f_n w) (f_n n) = true then 1 else 0) 697))] M2
          rw [he2.2 41 (by decide), t1]
          refine f_run_ok (stop := fun q => false) hX 20 _ _ _ _ _ ?_
          obtain ⟨y1, y2, y3⟩ := f_pof (p := p) (R := R) hu ht.1 (by unfold f_U at ht; omega) (hsp M2 r2)
          exact ⟨y1, y2, y3⟩)
        exact ⟨a1, a2, a3, a4, a5, a6, a7, a8, a9, a10, a11, a12, a13, a14, a15, a16⟩
set_option maxRecDepth 20000 in
theorem m_x_mean : f_Meets 4 (kX11_mean S_isB S_isP S_spread S_lens S_partOf) (f_x3 p_mean) := by
  intro G As M R hsp X hX hW
  match As, hsp with
  | [.ref 0, .int b, .int k, .int p], ⟨s, hG, hS, hR, hsp⟩ =>
    subst hG
    unfold p_mean at hsp
    have bad : (f_ng b s = false ∨ k < 0 ∨ 3 < k ∨ f_pt1 p = false) → X f_GX 24 [some (.ref 0), some (.int b), some (.int k), some (.int p)] [] M := by
      intro h
      rw [if_pos h] at hsp
      exact f_run_ok (stop := fun _ => false) hX 10 _ _ _ _ _ (hsp M hR)
    refine f_run_ok (stop := fun q => Nat.beq q 24 || Nat.beq q 28) hX 40 _ _ _ _ _ ?_
    refine ⟨rfl, ?_⟩
    rw [f_ng_b hR]
    cases hb : f_ng b s with
    | false => exact And.intro (fun _ => bad (Or.inl hb)) (fun z => absurd rfl z)
    | true =>
      obtain ⟨b1, b2, b3⟩ := f_ng_t hS hb
      refine And.intro (fun z => absurd z (by decide)) (fun _ => ?_)
      refine And.intro (fun h => bad (Or.inr (Or.inl h))) (fun h => ?_)
      refine And.intro (fun h2 => bad (Or.inr (Or.inr (Or.inl h2)))) (fun h2 => ?_)
      refine And.intro (fun hz => bad (Or.inr (Or.inr (Or.inr ((f_b0 (c := f_pt1 p)).mp hz))))) (fun hz => ?_)
      have hp : f_pt1 p = true := f_b_nt (c := f_pt1 p) hz
      ·
        rw [if_neg (by rw [hb, hp]; exact fun z => z.elim (by decide) (fun z => z.elim h (fun z => z.elim h2 (by decide))))] at hsp
        have hk0 : 0 ≤ k := Int32.not_lt.mp h
        have hk3 := f_nle (k := 3) hk0 (Int32.not_lt.mp h2) (by omega)
        obtain ⟨d1, d2, d3⟩ := f_dpc_b hS (f_n b)
        have ht := f_tot_b (c := s.1) (b := f_n b)
        refine f_run_ok (stop := fun q => Nat.beq q 36) hX 20 _ _ _ _ _ ?_
        obtain ⟨a1, a2, a3, a4, a5, a6, a7, a8, a9, a10, a11, a12, a13, a14, a15, a16⟩ := hR.spr (R := fun G' v M' => X G' 36 [some (.ref 0), some (.int b), some (.int k), some (.int p)] (f_ans v []) M') hS hb (fun M1 r1 w1 t1 s1 => by
          refine f_run_ok (stop := fun q => Nat.beq q 52) hX 20 _ _ _ _ _ ?_
          refine ⟨s.1.2.2.1, f_n k, (f_dpc s.1 (f_n b)).1, rfl, (f_nn hk0).symm, by omega, r1.ln, by have := hS.L2; omega, hS.L17, r1.2.2.2.2, w1, d2, fun M2 he2 => ?_⟩
          have r2 := r1.scr he2 (by decide)
          have hu : f_wsum (f_dpc s.1 (f_n b)).1 (fun S => (f_shp s.1.2.2.1 S).getD (f_n k) 0) 697 < 2 ^ 63 := by
            have := f_wsum_le (w := (f_dpc s.1 (f_n b)).1) (g := fun S => (f_shp s.1.2.2.1 S).getD (f_n k) 0) (b := 17) (fun S => by
              show (f_shp s.1.2.2.1 S).getD (f_n k) 0 ≤ 17
              have hmem : ∀ x ∈ f_shp s.1.2.2.1 S, x ≤ 17 := fun x hx => by
                have h1 : ∀ (l a : List Nat), x ∈ l.foldl (fun a x => f_ins x a) a → x ∈ l ∨ x ∈ a := by
                  intro l
                  induction l with
                  | nil => intro a h; exact Or.inr h
                  | cons y l ih =>
                    intro a h
                    rcases ih _ h with h | h
                    · exact Or.inl (List.mem_cons_of_mem _ h)
                    · rcases f_ins_mem a h with h | h
                      · exact Or.inl (h ▸ List.mem_cons_self)
                      · exact Or.inr h
                rcases h1 _ _ hx with h | h
                · obtain ⟨q, hq, rfl⟩ := List.mem_map.mp h
                  have := f_pcs_le s.1.2.2.1 S s.1.2.2.1 1 0 (by omega) q hq
                  have := hS.L17
                  omega
                · simp at h
              by_cases hlt : f_n k < (f_shp s.1.2.2.1 S).length
              · rw [List.getD_eq_getElem?_getD, List.getElem?_eq_getElem hlt]
                exact hmem _ (List.getElem_mem hlt)
              · rw [List.getD_eq_getElem?_getD, List.getElem?_eq_none (by omega)]
                exact Nat.zero_le _) 697
            unfold f_U at d1
            omega
          show X f_GX 52 [some (.ref 0), some (.int b), some (.int k), some (.int p)] [.int p, .long (M2.2 41 5), .long (lN (f_wsum (f_dpc s.1 (f_n b)).1 (fun S => (f_shp s.1.2.2.1 S).getD (f_n k) 0) 697))] M2
          rw [he2.2 41 (by decide), t1]
          refine f_run_ok (stop := fun q => false) hX 20 _ _ _ _ _ ?_
          obtain ⟨y1, y2, y3⟩ := f_pof (p := p) (R := R) hu ht.1 (by unfold f_U at ht; omega) (hsp M2 r2)
          exact ⟨y1, y2, y3⟩)
        exact ⟨a1, a2, a3, a4, a5, a6, a7, a8, a9, a10, a11, a12, a13, a14, a15, a16⟩
set_option maxRecDepth 20000 in
theorem m_x_costs : f_Meets 3 (kX11_costs S_isB S_isP S_spread S_partOf) (f_x2 p_costs) := by
  intro G As M R hsp X hX hW
  match As, hsp with
  | [.ref 0, .int b, .int p], ⟨s, hG, hS, hR, hsp⟩ =>
    subst hG
    unfold p_costs at hsp
    have bad : (f_ng b s = false ∨ f_pt1 p = false) → X f_GX 15 [some (.ref 0), some (.int b), some (.int p)] [] M := by
      intro h
      rw [if_pos h] at hsp
      exact f_run_ok (stop := fun _ => false) hX 10 _ _ _ _ _ (hsp M hR)
    refine f_run_ok (stop := fun q => Nat.beq q 15 || Nat.beq q 19) hX 40 _ _ _ _ _ ?_
    refine ⟨rfl, ?_⟩
    rw [f_ng_b hR]
    cases hb : f_ng b s with
    | false => exact And.intro (fun _ => bad (Or.inl hb)) (fun z => absurd rfl z)
    | true =>
      obtain ⟨b1, b2, b3⟩ := f_ng_t hS hb
      refine And.intro (fun z => absurd z (by decide)) (fun _ => ?_)
      refine And.intro (fun hz => bad (Or.inr ((f_b0 (c := f_pt1 p)).mp hz))) (fun hz => ?_)
      have hp : f_pt1 p = true := f_b_nt (c := f_pt1 p) hz
      ·
        rw [if_neg (by rw [hb, hp]; exact fun z => z.elim (by decide) (by decide))] at hsp
        obtain ⟨d1, d2, d3⟩ := f_dpc_b hS (f_n b)
        have ht := f_tot_b (c := s.1) (b := f_n b)
        refine f_run_ok (stop := fun q => Nat.beq q 27) hX 20 _ _ _ _ _ ?_
        obtain ⟨a1, a2, a3, a4, a5, a6, a7, a8, a9, a10, a11, a12, a13, a14, a15, a16⟩ := hR.spr (R := fun G' v M' => X G' 27 [some (.ref 0), some (.int b), some (.int p)] (f_ans v []) M') hS hb (fun M1 r1 w1 t1 s1 => by
          refine f_run_ok (stop := fun q => Nat.beq q 42) hX 20 _ _ _ _ _ ?_
          show X f_GX 42 [some (.ref 0), some (.int b), some (.int p)] [.int p, .long (M1.2 41 5), .long (M1.2 41 6)] M1
          rw [t1, s1]
          refine f_run_ok (stop := fun q => false) hX 20 _ _ _ _ _ ?_
          obtain ⟨y1, y2, y3⟩ := f_pof (p := p) (R := R) d3 ht.1 (by unfold f_U at ht; omega) (hsp M1 r1)
          exact ⟨y1, y2, y3⟩)
        exact ⟨a1, a2, a3, a4, a5, a6, a7, a8, a9, a10, a11, a12, a13, a14, a15, a16⟩
def f_pcI (z : Int32) : List (Nat × Nat) → Nat → Int32
  | [], _ => -1
  | q :: l, m => if nI m = z then nI (q.2 - q.1) else f_pcI z l (m + 1)
theorem f_pcI_eq (z : Int32) : ∀ (l : List (Nat × Nat)) (m : Nat), m + l.length < 2 ^ 31 → f_pcI z l m = if nI m ≤ z ∧ z < nI (m + l.length) then nI ((l.getD (f_n z - m) (0, 0)).2 - (l.getD (f_n z - m) (0, 0)).1) else -1 := by
  intro l
  induction l with
  | nil =>
    intro m hm
    rw [if_neg]
    · rfl
    · intro h
      exact Int32.not_lt.mpr h.1 h.2
  | cons q l ih =>
    intro m hm
    have hm : m + (l.length + 1) < 2 ^ 31 := hm
    show (if nI m = z then nI (q.2 - q.1) else f_pcI z l (m + 1)) = _
    by_cases h : nI m = z
    · rw [if_pos h, if_pos ⟨by rw [h]; exact Int32.le_refl _, by rw [← h]; exact nI_lt (by show m < m + (l.length + 1); omega) (by show m + (l.length + 1) < 2 ^ 31; omega)⟩, ← h, f_n_nI (by omega), Nat.sub_self]
      rfl
    · rw [if_neg h, ih (m + 1) (by omega)]
      by_cases h2 : nI m ≤ z ∧ z < nI (m + (l.length + 1))
      · have z0 : 0 ≤ z := Int32.le_trans (nI_pos' (by omega)) h2.1
        have e1 := f_nge h2.1 (by omega)
        have e2 := f_nlt z0 h2.2 (by omega)
        have e3 : f_n z ≠ m := fun e => h (by rw [← e]; exact f_nn z0)
        have h3 : nI (m + 1) ≤ z ∧ z < nI (m + 1 + l.length) := by
          rw [← f_nn z0]
          exact ⟨nI_le (by omega) (f_n_lt z), nI_lt (by omega) (by omega)⟩
        rw [if_pos h3, if_pos (by exact h2)]
        obtain ⟨d, hd⟩ : ∃ d, f_n z - m = d + 1 := ⟨f_n z - m - 1, by omega⟩
        rw [show f_n z - (m + 1) = d by omega, hd]
        rfl
      · have h3 : ¬ (nI (m + 1) ≤ z ∧ z < nI (m + 1 + l.length)) := by
          intro h3
          refine h2 ⟨Int32.le_trans (nI_le (Nat.le_succ m) (by omega)) h3.1, ?_⟩
          have : m + 1 + l.length = m + (l.length + 1) := by omega
          rw [← this]
          exact h3.2
        rw [if_neg h3, if_neg (by exact h2)]
set_option maxRecDepth 20000 in
theorem m_x_piece : f_Meets 5 (kX11_piece S_hasBit) (f_x1 p_piece) := by
  intro G As M R hsp X hX hW
  match As, hsp with
  | [.ref 0, .int z], ⟨s, hG, hS, hR, hsp⟩ =>
    subst hG
    have hL17 := hS.L17
    have hL2 := hS.L2
    have hbr := hS.br
    have hln := hR.ln
    have hbr6 := hR.br
    have hres : p_piece s z = f_iv (f_pcI z (f_pc0 s.1.2.2.1 (s.1.1 0 2)) 0) s := by
      have hlen := f_pcs_len s.1.2.2.1 (s.1.1 0 2) s.1.2.2.1 1 0
      unfold p_piece
      rw [f_pcI_eq z _ 0 (by unfold f_pc0; omega), Nat.zero_add, Nat.sub_zero]
      by_cases h : 0 ≤ z ∧ z < nI (f_pc0 s.1.2.2.1 (s.1.1 0 2)).length
      · have h2 : nI 0 ≤ z ∧ z < nI (f_pc0 s.1.2.2.1 (s.1.1 0 2)).length := h
        rw [if_pos h, if_pos h2]
      · have h2 : ¬ (nI 0 ≤ z ∧ z < nI (f_pc0 s.1.2.2.1 (s.1.1 0 2)).length) := h
        rw [if_neg h, if_neg h2]
    rw [hres] at hsp
    have loop : ∀ (n p f m : Nat), p + n = s.1.2.2.1 + 1 → f < p → 1 ≤ p → m ≤ p → f_pcI z (f_pcs s.1.2.2.1 (s.1.1 0 2) n p f) m = f_pcI z (f_pc0 s.1.2.2.1 (s.1.1 0 2)) 0 → X f_GX 7 [some (.ref 0), some (.int z), some (.int (nI f)), some (.int (nI m)), some (.int (nI p))] [] M := by
      intro n
      induction n with
      | zero =>
        intro p f m hp hf hp1 hm he
        refine f_run_ok (stop := fun _ => false) hX 20 _ _ _ _ _ ?_
        refine And.intro (fun h => ?_) (fun h => ?_)
        · exact f_fin (hsp M hR) (by rw [← he]; rfl) rfl
        · have h : ¬ M.1 5 0 < nI p := h
          rw [hln] at h
          exact absurd (nI_lt (by omega) (by omega)) h
      | succ n ih =>
        intro p f m hp hf hp1 hm he
        have piece : (p = s.1.2.2.1 ∨ (s.1.1 0 2).testBit p = true) → X f_GX 52 [some (.ref 0), some (.int z), some (.int (nI f)), some (.int (nI m)), some (.int (nI p))] [] M := by
          intro h
          have he : f_pcI z (if p = s.1.2.2.1 ∨ (s.1.1 0 2).testBit p = true then (f, p) :: f_pcs s.1.2.2.1 (s.1.1 0 2) n (p + 1) p else f_pcs s.1.2.2.1 (s.1.1 0 2) n (p + 1) f) m = f_pcI z (f_pc0 s.1.2.2.1 (s.1.1 0 2)) 0 := he
          rw [if_pos h] at he
          have he : (if nI m = z then nI (p - f) else f_pcI z (f_pcs s.1.2.2.1 (s.1.1 0 2) n (p + 1) p) (m + 1)) = f_pcI z (f_pc0 s.1.2.2.1 (s.1.1 0 2)) 0 := he
          refine f_run_ok (stop := fun q => Nat.beq q 7) hX 30 _ _ _ _ _ ?_
          refine And.intro (fun h2 => ?_) (fun h2 => ?_)
          · have h2 : nI m = z := h2
            rw [if_pos h2] at he
            refine f_fin (hsp M hR) ?_ rfl
            show some (Value.int (f_pcI z (f_pc0 s.1.2.2.1 (s.1.1 0 2)) 0)) = some (Value.int (nI p - nI f))
            rw [← he, pk_sub (by omega)]
          · have h2 : ¬ nI m = z := h2
            rw [if_neg h2] at he
            have q := ih (p + 1) p (m + 1) (by omega) (by omega) (by omega) (by omega) he
            rw [nI_succ p, nI_succ m] at q
            exact q
        refine f_run_ok (stop := fun q => Nat.beq q 7 || Nat.beq q 52) hX 30 _ _ _ _ _ ?_
        refine And.intro (fun h => ?_) (fun h => ?_)
        · have h : M.1 5 0 < nI p := h
          rw [hln] at h
          exact absurd ((nI_ltI (by omega) (by omega)).mp h) (by omega)
        · refine And.intro (fun h2 => ?_) (fun h2 => ?_)
          · have h2 : nI p = M.1 5 0 := h2
            rw [hln] at h2
            exact piece (Or.inl ((nI_eq (by omega) (by omega)).mp h2))
          · have h2 : ¬ nI p = M.1 5 0 := h2
            rw [hln] at h2
            have h2 : ¬ p = s.1.2.2.1 := fun e => h2 (by rw [e])
            have hbit : f_bit (M.1 1 6) (nI p) = (s.1.1 0 2).testBit p := by rw [hbr6]; exact n_bit (by omega) (by omega)
            refine And.intro (fun h3 => ?_) (fun h3 => ?_)
            · have h3 : f_b (f_bit (M.1 1 6) (nI p)) = 0 := h3
              rw [hbit] at h3
              have h3 := f_b0.mp h3
              have q := ih (p + 1) f m (by omega) (by omega) (by omega) (by omega) (by
                rw [← he]
                show _ = f_pcI z (if p = s.1.2.2.1 ∨ (s.1.1 0 2).testBit p = true then (f, p) :: f_pcs s.1.2.2.1 (s.1.1 0 2) n (p + 1) p else f_pcs s.1.2.2.1 (s.1.1 0 2) n (p + 1) f) m
                rw [if_neg (by rw [h3]; simp [h2])])
              rw [nI_succ p] at q
              exact q
            · have h3 : ¬ f_b (f_bit (M.1 1 6) (nI p)) = 0 := h3
              rw [hbit] at h3
              exact piece (Or.inr (f_b_nt h3))
    refine f_run_ok (stop := fun q => Nat.beq q 7) hX 20 _ _ _ _ _ ?_
    exact loop s.1.2.2.1 1 0 0 (by omega) (by omega) (by omega) (by omega) rfl
