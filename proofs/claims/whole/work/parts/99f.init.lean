/-! ===== constructors: contracts, and the state that they make ===== -/
def S_iX0 : fSp := f_selfN 1 (fun hi => kX0_init (hi + 1)) 20
def S_iX3 : fSp := f_selfN 2 (fun hi => kX3_init (hi + 1)) 20
def S_iX1 : fSp := f_selfN 2 (fun hi => kX1_init (hi + 5) S_iX3) 40
def S_iX4 : fSp := f_selfN 3 (fun hi => kX4_init (hi + 1)) 30
def S_iX10 : fSp := f_selfN 1 (fun hi => kX10_init (hi + 4)) 40
def S_iX5 : fSp := f_selfN 2 (fun hi => kX5_init (hi + 5) S_iX10) 30
def S_iX6 : fSp := f_selfN 1 (fun hi => kX6_init (hi + 1)) 20
def S_iX7 : fSp := f_selfN 1 (fun hi => kX7_init (hi + 1)) 20
def S_iX8 : fSp := f_selfN 1 (fun hi => kX8_init (hi + 12) S_iX10) 60
def S_iX9 : fSp := f_selfN 1 (fun hi => kX9_init (hi + 3)) 30
def S_iX11 : fSp := f_selfN 1 (fun hi => kX11_init (hi + 53) S_iX8 S_iX5 S_iX1 S_iX7 S_endsI S_iX4 S_iX6 S_iX9 S_iX0) 90
def S_iX12 : fSp := f_selfN 1 (fun hi => kX12_init (hi + 16)) 80
theorem c_iX0 : f_Con 0 1 1 yX0_init cX0_init 1 none S_iX0 := f_conN (own := RX0) (by decide +kernel) rfl (fun _ _ _ _ _ _ _ _ _ _ _ _ _ _ _ hB => zX0_init hB rfl (by decide)) (f_selfN_ok _ _ _)
theorem c_iX3 : f_Con 0 1 1 yX3_init cX3_init 2 none S_iX3 := f_conN (own := RX3) (by decide +kernel) rfl (fun _ _ _ _ _ _ _ _ _ _ _ _ _ _ _ hB => zX3_init hB rfl (by decide)) (f_selfN_ok _ _ _)
theorem c_iX4 : f_Con 0 1 1 yX4_init cX4_init 3 none S_iX4 := f_conN (own := RX4) (by decide +kernel) rfl (fun _ _ _ _ _ _ _ _ _ _ _ _ _ _ _ hB => zX4_init hB rfl (by decide)) (f_selfN_ok _ _ _)
theorem c_iX10 : f_Con 0 1 4 yX10_init cX10_init 1 none S_iX10 := f_conN (own := RX10) (by decide +kernel) rfl (fun _ _ _ _ _ _ _ _ _ _ _ _ _ _ _ hB => zX10_init hB rfl (by decide)) (f_selfN_ok _ _ _)
theorem c_iX6 : f_Con 0 1 1 yX6_init cX6_init 1 none S_iX6 := f_conN (own := RX6) (by decide +kernel) rfl (fun _ _ _ _ _ _ _ _ _ _ _ _ _ _ _ hB => zX6_init hB rfl (by decide)) (f_selfN_ok _ _ _)
theorem c_iX7 : f_Con 0 1 1 yX7_init cX7_init 1 none S_iX7 := f_conN (own := RX7) (by decide +kernel) rfl (fun _ _ _ _ _ _ _ _ _ _ _ _ _ _ _ hB => zX7_init hB rfl (by decide)) (f_selfN_ok _ _ _)
theorem c_iX9 : f_Con 0 1 3 yX9_init cX9_init 1 none S_iX9 := f_conN (own := RX9) (by decide +kernel) rfl (fun _ _ _ _ _ _ _ _ _ _ _ _ _ _ _ hB => zX9_init hB rfl (by decide)) (f_selfN_ok _ _ _)
theorem c_iX1 : f_Con 0 2 5 yX1_init cX1_init 2 none S_iX1 := f_conN (own := RX1) (by decide +kernel) rfl (fun _ _ _ _ _ _ _ _ _ _ _ _ _ _ _ hB => zX1_init hB rfl (by decide) ⟨c_iX3, by decide, by decide, g_110, g_6, by decide +kernel⟩) (f_selfN_ok _ _ _)
theorem c_iX5 : f_Con 0 2 5 yX5_init cX5_init 2 none S_iX5 := f_conN (own := RX5) (by decide +kernel) rfl (fun _ _ _ _ _ _ _ _ _ _ _ _ _ _ _ hB => zX5_init hB rfl (by decide) ⟨c_iX10, by decide, by decide, g_36, g_3, by decide +kernel⟩) (f_selfN_ok _ _ _)
theorem c_iX8 : f_Con 0 2 12 yX8_init cX8_init 1 none S_iX8 := f_conN (own := RX8) (by decide +kernel) rfl (fun _ _ _ _ _ _ _ _ _ _ _ _ _ _ _ hB => zX8_init hB rfl (by decide) ⟨c_iX10, by decide, by decide, g_36, g_3, by decide +kernel⟩) (f_selfN_ok _ _ _)
theorem c_iX2 : f_Con 0 4 2 yX2_init cX2_init 7 none S_endsI := f_conN (own := RX2) (code := fun hi => kX2_init (hi + 2) S_addSet) (by decide +kernel) rfl (fun _ _ _ _ _ _ _ _ _ _ _ _ _ _ _ hB => zX2_init hB rfl (by decide) ⟨c_X2_addSet_0, by decide, by decide, g_154, g_8, by decide +kernel⟩) (fun G As M R hsp X hX hW => by
  have hG : G.1 = 42 := by
    unfold S_endsI at hsp
    split at hsp
    · exact hsp.1
    · exact hsp.elim
  rw [hG] at hX
  exact m_endsI G As M R hsp X hX hW)
theorem c_iX11 : f_Con 0 5 53 yX11_init cX11_init 1 none S_iX11 := f_conN (own := RX11) (by decide +kernel) rfl (fun _ _ _ _ _ _ _ _ _ _ _ _ _ _ _ hB => zX11_init hB rfl (by decide) ⟨c_iX8, by decide, by decide, g_31, g_2, by decide +kernel⟩ ⟨c_iX5, by decide, by decide, g_89, g_4, by decide +kernel⟩ ⟨c_iX1, by decide, by decide, g_105, g_5, by decide +kernel⟩ ⟨c_iX7, by decide, by decide, g_139, g_7, by decide +kernel⟩ ⟨c_iX2, by decide, by decide, g_150, g_8, by decide +kernel⟩ ⟨c_iX4, by decide, by decide, g_190, g_10, by decide +kernel⟩ ⟨c_iX6, by decide, by decide, g_211, g_11, by decide +kernel⟩ ⟨c_iX9, by decide, by decide, g_218, g_12, by decide +kernel⟩ ⟨c_iX0, by decide, by decide, g_231, g_13, by decide +kernel⟩) (f_selfN_ok _ _ _)
theorem c_iX12 : f_Con 100 1 16 yX12_init cX12_init 1 none S_iX12 := f_conN (own := RX12) (by decide +kernel) rfl (fun _ _ _ _ _ _ _ _ _ _ _ _ _ _ _ hB => zX12_init hB rfl (by decide)) (f_selfN_ok _ _ _)
/-- nobody, no yard, a stick of twelve -/
def f_s0 : fSt := ((fun _ _ => 0, 0, (12, 2, [])), none, [])
theorem f_s0_ok : f_SW f_s0 := ⟨⟨⟨Nat.zero_le _, Nat.zero_le _, ⟨by decide, rfl⟩, Nat.zero_le _, Nat.zero_le _, Nat.zero_le _, Nat.zero_le _⟩, fun _ => by decide, fun _ => by decide, fun _ => by decide, fun _ => by decide, fun i hi => absurd hi (Nat.not_lt_zero i), fun i hi => absurd hi (Nat.not_lt_zero i), fun i hi => absurd hi (Nat.not_lt_zero i), fun _ => by decide, by show 2 ≤ 12; omega, by show 12 ≤ 17; omega, by show 1 ≤ 2; omega, by show 2 ≤ 3; omega, by decide, by decide, fun q hq => by simp at hq⟩, fun k hk => by cases hk, by decide⟩
def f_M0 : fMem := (fun _ _ => 0, fun _ _ => 0)
def f_N0 : Nat → Nat → Value := fun _ _ => .null
