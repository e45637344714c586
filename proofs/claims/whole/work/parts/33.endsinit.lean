/-! ===== the making of the slots ===== -/
def f_sx (x y z : Nat) : Nat := if y = 0 then 2 ^ x else if z = 0 then 2 ^ x ||| 2 ^ y else 2 ^ x ||| 2 ^ y ||| 2 ^ z
def f_tv (x y z : Nat) : Bool := (Nat.blt 0 x && Nat.blt x 17) && ((Nat.beq y 0 && Nat.beq z 0) || ((Nat.blt 0 y && Nat.blt y x) && (Nat.beq z 0 || (Nat.blt 0 z && Nat.blt z y))))
theorem f_tv_ok {x y z : Nat} (h : f_tv x y z = true) : f_ok (f_sx x y z) ∧ f_sx x y z ≠ 0 := by
  have hb : x < 17 ∧ y < 17 ∧ z < 17 := by
    simp only [f_tv, Bool.and_eq_true, Bool.or_eq_true, Nat.blt, Nat.ble_eq, Nat.beq_eq] at h
    omega
  have := f_allr_ok (P := fun x => f_allr (fun y => f_allr (fun z => !f_tv x y z || ((Nat.blt (f_sx x y z) 131072 && !(f_sx x y z).testBit 0) && (Nat.ble (f_pc (f_sx x y z)) 3 && !Nat.beq (f_sx x y z) 0))) 17) 17) 17 (by decide +kernel) x hb.1
  have := f_allr_ok 17 this y hb.2.1
  have := f_allr_ok 17 this z hb.2.2
  simp only [h, Bool.not_true, Bool.false_or, Bool.and_eq_true] at this
  refine ⟨⟨Nat.le_of_ble_eq_true this.1.1, by simpa using this.1.2, Nat.le_of_ble_eq_true this.2.1⟩, fun q => ?_⟩
  rw [q] at this
  exact absurd this.2.2 (by decide)
theorem f_set_sx {i : Nat} (h : i < 697) (h0 : i ≠ 0) : ∃ x y z, f_tv x y z = true ∧ f_set i = f_sx x y z := by
  have := f_allr_ok (P := fun i => Nat.beq i 0 || (let S := f_set i; let x := Nat.log2 S; let y := Nat.log2 (S - 2 ^ x); let z := Nat.log2 (S - 2 ^ x - 2 ^ y); f_tv x y z && Nat.beq S (f_sx x y z))) 697 (by decide +kernel) i h
  simp only [Bool.or_eq_true, Bool.and_eq_true] at this
  rcases this with q | q
  · exact absurd (Nat.eq_of_beq_eq_true q) h0
  · exact ⟨_, _, _, q.1, Nat.eq_of_beq_eq_true q.2⟩
