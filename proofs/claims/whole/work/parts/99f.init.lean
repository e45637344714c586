/-! ===== constructors: contracts, and the state that they make ===== -/
def S_iX0 : fSp := f_selfN 1 (fun hi => kX0_init (hi + 1)) 20
def S_iX3 : fSp := f_selfN 2 (fun hi => kX3_init (hi + 1)) 20
def S_iX1 : fSp := f_selfN 2 (fun hi => kX1_init (hi + 5) S_iX3) 40
def S_iX4 : fSp := f_selfN 3 (fun hi => kX4_init (hi + 1)) 30
def S_iX10 : fSp := f_selfN 1 (fun hi => kX10_init (hi + 4)) 40
def S_iX5 : fSp := f_selfN 2 (fun hi => kX5_init (hi + 5) S_iX10) 30
def S_iX6 : fSp := f_selfN 1 (fun hi => kX6_init (hi + 1)) 20
def S_iX7 : fSp := f_selfN 1 (fun hi => kX7_init (hi + 1)) 20
def S_iX8 : fSp := f_selfN 1 (fun hi => kX8_init (hi + 12) S_iX10) 60
def S_iX9 : fSp := f_selfN 1 (fun hi => kX9_init (hi + 3)) 30
def S_iX11 : fSp := f_selfN 1 (fun hi => kX11_init (hi + 53) S_iX8 S_iX5 S_iX1 S_iX7 S_endsI S_iX4 S_iX6 S_iX9 S_iX0) 90
def S_iX12 : fSp := f_selfN 1 (fun hi => kX12_init (hi + 16)) 80
theorem c_iX0 : f_Con 0 1 1 yX0_init cX0_init 1 none S_iX0 := f_conN (own := RX0) (by decide +kernel) rfl (fun _ _ _ _ _ _ _ _ _ _ _ _ _ _ _ hB => zX0_init hB rfl (by decide)) (f_selfN_ok _ _ _)
theorem c_iX3 : f_Con 0 1 1 yX3_init cX3_init 2 none S_iX3 := f_conN (own := RX3) (by decide +kernel) rfl (fun _ _ _ _ _ _ _ _ _ _ _ _ _ _ _ hB => zX3_init hB rfl (by decide)) (f_selfN_ok _ _ _)
theorem c_iX4 : f_Con 0 1 1 yX4_init cX4_init 3 none S_iX4 := f_conN (own := RX4) (by decide +kernel) rfl (fun _ _ _ _ _ _ _ _ _ _ _ _ _ _ _ hB => zX4_init hB rfl (by decide)) (f_selfN_ok _ _ _)
theorem c_iX10 : f_Con 0 1 4 yX10_init cX10_init 1 none S_iX10 := f_conN (own := RX10) (by decide +kernel) rfl (fun _ _ _ _ _ _ _ _ _ _ _ _ _ _ _ hB => zX10_init hB rfl (by decide)) (f_selfN_ok _ _ _)
theorem c_iX6 : f_Con 0 1 1 yX6_init cX6_init 1 none S_iX6 := f_conN (own := RX6) (by decide +kernel) rfl (fun _ _ _ _ _ _ _ _ _ _ _ _ _ _ _ hB => zX6_init hB rfl (by decide)) (f_selfN_ok _ _ _)
theorem c_iX7 : f_Con 0 1 1 yX7_init cX7_init 1 none S_iX7 := f_conN (own := RX7) (by decide +kernel) rfl (fun _ _ _ _ _ _ _ _ _ _ _ _ _ _ _ hB => zX7_init hB rfl (by decide)) (f_selfN_ok _ _ _)
theorem c_iX9 : f_Con 0 1 3 yX9_init cX9_init 1 none S_iX9 := f_conN (own := RX9) (by decide +kernel) rfl (fun _ _ _ _ _ _ _ _ _ _ _ _ _ _ _ hB => zX9_init hB rfl (by decide)) (f_selfN_ok _ _ _)
theorem c_iX1 : f_Con 0 2 5 yX1_init cX1_init 2 none S_iX1 := f_conN (own := RX1) (by decide +kernel) rfl (fun _ _ _ _ _ _ _ _ _ _ _ _ _ _ _ hB => zX1_init hB rfl (by decide) ⟨c_iX3, by decide, by decide, g_110, g_6, by decide +kernel⟩) (f_selfN_ok _ _ _)
theorem c_iX5 : f_Con 0 2 5 yX5_init cX5_init 2 none S_iX5 := f_conN (own := RX5) (by decide +kernel) rfl (fun _ _ _ _ _ _ _ _ _ _ _ _ _ _ _ hB => zX5_init hB rfl (by decide) ⟨c_iX10, by decide, by decide, g_36, g_3, by decide +kernel⟩) (f_selfN_ok _ _ _)
theorem c_iX8 : f_Con 0 2 12 yX8_init cX8_init 1 none S_iX8 := f_conN (own := RX8) (by decide +kernel) rfl (fun _ _ _ _ _ _ _ _ _ _ _ _ _ _ _ hB => zX8_init hB rfl (by decide) ⟨c_iX10, by decide, by decide, g_36, g_3, by decide +kernel⟩) (f_selfN_ok _ _ _)
theorem c_iX2 : f_Con 0 4 2 yX2_init cX2_init 7 none S_endsI := f_conN (own := RX2) (code := fun hi => kX2_init (hi + 2) S_addSet) (by decide +kernel) rfl (fun _ _ _ _ _ _ _ _ _ _ _ _ _ _ _ hB => zX2_init hB rfl (by decide) ⟨c_X2_addSet_0, by decide, by decide, g_154, g_8, by decide +kernel⟩) (fun G As M R hsp X hX hW => by
  have hG : G.1 = 42 := by
    unfold S_endsI at hsp
    split at hsp
    · exact hsp.1
    · exact hsp.elim
  rw [hG] at hX
  exact m_endsI G As M R hsp X hX hW)
theorem c_iX11 : f_Con 0 5 53 yX11_init cX11_init 1 none S_iX11 := f_conN (own := RX11) (by decide +kernel) rfl (fun _ _ _ _ _ _ _ _ _ _ _ _ _ _ _ hB => zX11_init hB rfl (by decide) ⟨c_iX8, by decide, by decide, g_31, g_2, by decide +kernel⟩ ⟨c_iX5, by decide, by decide, g_89, g_4, by decide +kernel⟩ ⟨c_iX1, by decide, by decide, g_105, g_5, by decide +kernel⟩ ⟨c_iX7, by decide, by decide, g_139, g_7, by decide +kernel⟩ ⟨c_iX2, by decide, by decide, g_150, g_8, by decide +kernel⟩ ⟨c_iX4, by decide, by decide, g_190, g_10, by decide +kernel⟩ ⟨c_iX6, by decide, by decide, g_211, g_11, by decide +kernel⟩ ⟨c_iX9, by decide, by decide, g_218, g_12, by decide +kernel⟩ ⟨c_iX0, by decide, by decide, g_231, g_13, by decide +kernel⟩) (f_selfN_ok _ _ _)
theorem c_iX12 : f_Con 100 1 16 yX12_init cX12_init 1 none S_iX12 := f_conN (own := RX12) (by decide +kernel) rfl (fun _ _ _ _ _ _ _ _ _ _ _ _ _ _ _ hB => zX12_init hB rfl (by decide)) (f_selfN_ok _ _ _)
/-- nobody, no yard, a stick of twelve -/
def f_s0 : fSt := ((fun _ _ => 0, 0, (12, 2, [])), none, [])
theorem f_s0_ok : f_SW f_s0 := by
  have z : ∀ c i, f_s0.1.1 c i = 0 := fun _ _ => rfl
  refine ⟨⟨⟨Nat.zero_le _, Nat.zero_le _, ⟨by decide, rfl⟩, Nat.zero_le _, Nat.zero_le _, Nat.zero_le _, Nat.zero_le _⟩, fun i => ?_, fun i => ?_, fun i => ?_, fun i => ?_, fun i hi => absurd hi (Nat.not_lt_zero i), fun i hi => absurd hi (Nat.not_lt_zero i), fun i hi => absurd hi (Nat.not_lt_zero i), fun i => ?_, ?_⟩, fun k hk => ?_, ?_⟩
  · rw [z]; decide
  · rw [z]; decide
  · rw [z]; decide
  · rw [z]; decide
  · rw [z]; decide
  · exact ⟨by show 2 ≤ 12; omega, by show 12 ≤ 17; omega, by show 1 ≤ 2; omega, by show 2 ≤ 3; omega, Nat.zero_le _, Nat.zero_le _, fun q hq => absurd hq List.not_mem_nil⟩
  · cases hk
  · decide
def f_M0 : fMem := (fun _ _ => 0, fun _ _ => 0)
def f_N0 : Nat → Nat → Value := fun _ _ => .null
theorem e_startM : f_RM f_s0 ((f_up (fun _ _ => 0) 101 (6 : Int32).toNatClampNeg (-1)), (fun _ _ => 0)) := by
  have h6 : (6 : Int32).toNatClampNeg = 6 := by decide
  rw [h6]
  generalize hM : ((f_up (fun _ _ => 0) 101 6 (-1), fun _ _ => 0) : fMem) = M
  have hz : ∀ k, k ≠ 6 → M.1 101 k = 0 := fun k hk => by
    subst hM
    show (if 101 = 101 then (if k = 6 then (-1 : Int32) else 0) else 0) = 0
    rw [if_pos rfl, if_neg hk]
  have h1 : M.1 101 6 = -1 := by subst hM; rfl
  have h2 : ∀ k, M.1 100 k = 0 := fun k => by subst hM; rfl
  refine ⟨⟨⟨hz _ (by omega), hz _ (by omega), hz _ (by omega), hz _ (by omega), hz _ (by omega), hz _ (by omega), hz _ (by omega), hz _ (by omega)⟩, ⟨fun i _ => hz _ (by omega), fun i _ => hz _ (by omega), fun i _ => hz _ (by omega), fun i _ => hz _ (by omega), fun i _ => hz _ (by omega), fun i _ => hz _ (by omega), fun i _ => hz _ (by omega)⟩, Or.inl ⟨h1, rfl⟩⟩, h2 3, (fun k hk => by cases hk), h2 35, fun i y _ hy => by simp [f_s0] at hy⟩
set_option maxRecDepth 20000 in
set_option maxHeartbeats 4000000 in
theorem m_startM : S_iX12 (101, f_N0) [.ref 100] f_M0 (fun G v M => True → v = none ∧ G.1 = 117 ∧ (∀ c, c < 17 → ∀ k, k < 39 → G.2 (100 + c) k = f_RF (100 + c) k) ∧ f_RM f_s0 M) := by
  show f_run _ _ _ _ _ (101, f_N0) _ _ _ ((fun _ _ => 0), (fun _ _ => 0))
  refine And.intro rfl (And.intro ⟨fun _ => rfl, fun _ => rfl, fun _ => rfl⟩ ?_)
  show f_run _ _ _ _ _ (102, f_N0) _ _ _ ((fun _ _ => 0), (fun _ _ => 0))
  refine And.intro rfl (And.intro ⟨fun _ => rfl, fun _ => rfl, fun _ => rfl⟩ ?_)
  show f_run _ _ _ _ _ (103, (f_upR f_N0 100 1 (.ref 101))) _ _ _ ((fun _ _ => 0), (fun _ _ => 0))
  refine And.intro rfl (And.intro ⟨fun _ => rfl, fun _ => rfl, fun _ => rfl⟩ ?_)
  show f_run _ _ _ _ _ (104, (f_upR (f_upR f_N0 100 1 (.ref 101)) 100 2 (.ref 102))) _ _ _ ((fun _ _ => 0), (fun _ _ => 0))
  refine And.intro rfl (And.intro ⟨fun _ => rfl, fun _ => rfl, fun _ => rfl⟩ ?_)
  show f_run _ _ _ _ _ (105, (f_upR (f_upR (f_upR f_N0 100 1 (.ref 101)) 100 2 (.ref 102)) 100 9 (.ref 103))) _ _ _ ((fun _ _ => 0), (fun _ _ => 0))
  refine And.intro rfl (And.intro ⟨fun _ => rfl, fun _ => rfl, fun _ => rfl⟩ ?_)
  show f_run _ _ _ _ _ (106, (f_upR (f_upR (f_upR (f_upR f_N0 100 1 (.ref 101)) 100 2 (.ref 102)) 100 9 (.ref 103)) 100 10 (.ref 104))) _ _ _ ((fun _ _ => 0), (fun _ _ => 0))
  refine And.intro rfl (And.intro ⟨fun _ => rfl, fun _ => rfl, fun _ => rfl⟩ ?_)
  show f_run _ _ _ _ _ (107, (f_upR (f_upR (f_upR (f_upR (f_upR f_N0 100 1 (.ref 101)) 100 2 (.ref 102)) 100 9 (.ref 103)) 100 10 (.ref 104)) 100 13 (.ref 105))) _ _ _ ((fun _ _ => 0), (fun _ _ => 0))
  refine And.intro rfl (And.intro ⟨fun _ => rfl, fun _ => rfl, fun _ => rfl⟩ ?_)
  show f_run _ _ _ _ _ (108, (f_upR (f_upR (f_upR (f_upR (f_upR (f_upR f_N0 100 1 (.ref 101)) 100 2 (.ref 102)) 100 9 (.ref 103)) 100 10 (.ref 104)) 100 13 (.ref 105)) 100 14 (.ref 106))) _ _ _ ((fun _ _ => 0), (fun _ _ => 0))
  refine And.intro rfl (And.intro ⟨fun _ => rfl, fun _ => rfl, fun _ => rfl⟩ ?_)
  show f_run _ _ _ _ _ (109, (f_upR (f_upR (f_upR (f_upR (f_upR (f_upR (f_upR f_N0 100 1 (.ref 101)) 100 2 (.ref 102)) 100 9 (.ref 103)) 100 10 (.ref 104)) 100 13 (.ref 105)) 100 14 (.ref 106)) 100 15 (.ref 107))) _ _ _ ((fun _ _ => 0), (fun _ _ => 0))
  refine And.intro rfl (And.intro ⟨fun _ => rfl, fun _ => rfl, fun _ => rfl⟩ ?_)
  show f_run _ _ _ _ _ (110, (f_upR (f_upR (f_upR (f_upR (f_upR (f_upR (f_upR (f_upR f_N0 100 1 (.ref 101)) 100 2 (.ref 102)) 100 9 (.ref 103)) 100 10 (.ref 104)) 100 13 (.ref 105)) 100 14 (.ref 106)) 100 15 (.ref 107)) 100 16 (.ref 108))) _ _ _ ((fun _ _ => 0), (fun _ _ => 0))
  refine And.intro rfl (And.intro ⟨fun _ => rfl, fun _ => rfl, fun _ => rfl⟩ ?_)
  show f_run _ _ _ _ _ (111, (f_upR (f_upR (f_upR (f_upR (f_upR (f_upR (f_upR (f_upR (f_upR f_N0 100 1 (.ref 101)) 100 2 (.ref 102)) 100 9 (.ref 103)) 100 10 (.ref 104)) 100 13 (.ref 105)) 100 14 (.ref 106)) 100 15 (.ref 107)) 100 16 (.ref 108)) 100 18 (.ref 109))) _ _ _ ((fun _ _ => 0), (fun _ _ => 0))
  refine And.intro rfl (And.intro ⟨fun _ => rfl, fun _ => rfl, fun _ => rfl⟩ ?_)
  show f_run _ _ _ _ _ (112, (f_upR (f_upR (f_upR (f_upR (f_upR (f_upR (f_upR (f_upR (f_upR (f_upR f_N0 100 1 (.ref 101)) 100 2 (.ref 102)) 100 9 (.ref 103)) 100 10 (.ref 104)) 100 13 (.ref 105)) 100 14 (.ref 106)) 100 15 (.ref 107)) 100 16 (.ref 108)) 100 18 (.ref 109)) 100 23 (.ref 110))) _ _ _ ((fun _ _ => 0), (fun _ _ => 0))
  refine And.intro rfl (And.intro ⟨fun _ => rfl, fun _ => rfl, fun _ => rfl⟩ ?_)
  show f_run _ _ _ _ _ (113, (f_upR (f_upR (f_upR (f_upR (f_upR (f_upR (f_upR (f_upR (f_upR (f_upR (f_upR f_N0 100 1 (.ref 101)) 100 2 (.ref 102)) 100 9 (.ref 103)) 100 10 (.ref 104)) 100 13 (.ref 105)) 100 14 (.ref 106)) 100 15 (.ref 107)) 100 16 (.ref 108)) 100 18 (.ref 109)) 100 23 (.ref 110)) 100 24 (.ref 111))) _ _ _ ((fun _ _ => 0), (fun _ _ => 0))
  refine And.intro rfl (And.intro ⟨fun _ => rfl, fun _ => rfl, fun _ => rfl⟩ ?_)
  show f_run _ _ _ _ _ (114, (f_upR (f_upR (f_upR (f_upR (f_upR (f_upR (f_upR (f_upR (f_upR (f_upR (f_upR (f_upR f_N0 100 1 (.ref 101)) 100 2 (.ref 102)) 100 9 (.ref 103)) 100 10 (.ref 104)) 100 13 (.ref 105)) 100 14 (.ref 106)) 100 15 (.ref 107)) 100 16 (.ref 108)) 100 18 (.ref 109)) 100 23 (.ref 110)) 100 24 (.ref 111)) 100 25 (.ref 112))) _ _ _ ((fun _ _ => 0), (fun _ _ => 0))
  refine And.intro rfl (And.intro ⟨fun _ => rfl, fun _ => rfl, fun _ => rfl⟩ ?_)
  show f_run _ _ _ _ _ (115, (f_upR (f_upR (f_upR (f_upR (f_upR (f_upR (f_upR (f_upR (f_upR (f_upR (f_upR (f_upR (f_upR f_N0 100 1 (.ref 101)) 100 2 (.ref 102)) 100 9 (.ref 103)) 100 10 (.ref 104)) 100 13 (.ref 105)) 100 14 (.ref 106)) 100 15 (.ref 107)) 100 16 (.ref 108)) 100 18 (.ref 109)) 100 23 (.ref 110)) 100 24 (.ref 111)) 100 25 (.ref 112)) 100 26 (.ref 113))) _ _ _ ((fun _ _ => 0), (fun _ _ => 0))
  refine And.intro rfl (And.intro ⟨fun _ => rfl, fun _ => rfl, fun _ => rfl⟩ ?_)
  show f_run _ _ _ _ _ (116, (f_upR (f_upR (f_upR (f_upR (f_upR (f_upR (f_upR (f_upR (f_upR (f_upR (f_upR (f_upR (f_upR (f_upR f_N0 100 1 (.ref 101)) 100 2 (.ref 102)) 100 9 (.ref 103)) 100 10 (.ref 104)) 100 13 (.ref 105)) 100 14 (.ref 106)) 100 15 (.ref 107)) 100 16 (.ref 108)) 100 18 (.ref 109)) 100 23 (.ref 110)) 100 24 (.ref 111)) 100 25 (.ref 112)) 100 26 (.ref 113)) 100 29 (.ref 114))) _ _ _ ((fun _ _ => 0), (fun _ _ => 0))
  refine And.intro rfl (And.intro ⟨fun _ => rfl, fun _ => rfl, fun _ => rfl⟩ ?_)
  show f_run _ _ _ _ _ (117, (f_upR (f_upR (f_upR (f_upR (f_upR (f_upR (f_upR (f_upR (f_upR (f_upR (f_upR (f_upR (f_upR (f_upR (f_upR f_N0 100 1 (.ref 101)) 100 2 (.ref 102)) 100 9 (.ref 103)) 100 10 (.ref 104)) 100 13 (.ref 105)) 100 14 (.ref 106)) 100 15 (.ref 107)) 100 16 (.ref 108)) 100 18 (.ref 109)) 100 23 (.ref 110)) 100 24 (.ref 111)) 100 25 (.ref 112)) 100 26 (.ref 113)) 100 29 (.ref 114)) 100 30 (.ref 115))) _ _ _ ((fun _ _ => 0), (fun _ _ => 0))
  refine And.intro (v9 6 (by decide)) ?_
  show f_run _ _ _ _ _ (117, (f_upR (f_upR (f_upR (f_upR (f_upR (f_upR (f_upR (f_upR (f_upR (f_upR (f_upR (f_upR (f_upR (f_upR (f_upR (f_upR f_N0 100 1 (.ref 101)) 100 2 (.ref 102)) 100 9 (.ref 103)) 100 10 (.ref 104)) 100 13 (.ref 105)) 100 14 (.ref 106)) 100 15 (.ref 107)) 100 16 (.ref 108)) 100 18 (.ref 109)) 100 23 (.ref 110)) 100 24 (.ref 111)) 100 25 (.ref 112)) 100 26 (.ref 113)) 100 29 (.ref 114)) 100 30 (.ref 115)) 100 34 (.ref 116))) _ _ _ ((f_up (fun _ _ => 0) 101 (6 : Int32).toNatClampNeg (-1)), (fun _ _ => 0))
  refine And.intro rfl ?_
  intro _
  refine ⟨rfl, rfl, by decide +kernel, ?_⟩
  exact e_startM
