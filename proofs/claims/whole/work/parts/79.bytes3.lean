/-! shifts of bytes; how many bits each byte has -/
section
theorem Bt_lit : ∀ v, v < 8 → Bt 6148914691236517205 v = 85 ∧ Bt 3689348814741910323 v = 51 ∧ Bt 1085102592571150095 v = 15 ∧ Bt (-9187201950435737472) v = 128 ∧ Bt 72340172838076673 v = 1 ∧ Bt 9187201950435737471 v = 127 ∧ Bt 0 v = 0 ∧ Bt (-1) v = 255 := by decide +kernel
theorem q_shr (q : Nat) : q / 2 % 256 = ((q % 256) / 2 + (q / 256 % 256) % 2 * 128) % 256 ∧ q / 4 % 256 = ((q % 256) / 4 + (q / 256 % 256) % 4 * 64) % 256 ∧ q / 16 % 256 = ((q % 256) / 16 + (q / 256 % 256) % 16 * 16) % 256 ∧ q / 128 % 256 = ((q % 256) / 128 + (q / 256 % 256) % 128 * 2) % 256 := by omega
theorem Bt_up (x : Int64) (v : Nat) : Bt x (v + 1) = nL x / 2 ^ (8 * v) / 256 % 256 := by
  unfold Bt
  rw [Nat.div_div_eq_div_mul, show 8 * (v + 1) = 8 * v + 8 by omega, Nat.pow_add]
theorem Bt_shr (x : Int64) {k : Nat} (hk : k < 64) (v : Nat) : Bt (lushr x (k : Int)) v = nL x / 2 ^ (8 * v) / 2 ^ k % 256 := by
  unfold Bt
  rw [nL_shr x hk, Nat.div_div_eq_div_mul, Nat.div_div_eq_div_mul, Nat.mul_comm]
theorem Bt_shr1 (x : Int64) (v : Nat) : Bt (lushr x 1) v = (Bt x v / 2 + Bt x (v + 1) % 2 * 128) % 256 := by
  have := Bt_shr x (k := 1) (by omega) v
  rw [Bt_up]
  exact this.trans (q_shr _).1
theorem Bt_shr2 (x : Int64) (v : Nat) : Bt (lushr x 2) v = (Bt x v / 4 + Bt x (v + 1) % 4 * 64) % 256 := by
  have := Bt_shr x (k := 2) (by omega) v
  rw [Bt_up]
  exact this.trans (q_shr _).2.1
theorem Bt_shr4 (x : Int64) (v : Nat) : Bt (lushr x 4) v = (Bt x v / 16 + Bt x (v + 1) % 16 * 16) % 256 := by
  have := Bt_shr x (k := 4) (by omega) v
  rw [Bt_up]
  exact this.trans (q_shr _).2.2.1
theorem Bt_shr7 (x : Int64) (v : Nat) : Bt (lushr x 7) v = (Bt x v / 128 + Bt x (v + 1) % 128 * 2) % 256 := by
  have := Bt_shr x (k := 7) (by omega) v
  rw [Bt_up]
  exact this.trans (q_shr _).2.2.2
end
