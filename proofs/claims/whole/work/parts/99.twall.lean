/-! what is walled up -/
section
variable {w : Wd} {d : Nat} {i : IM} {l : LM}
theorem l2i_0 : l2i 0 = 0 := by decide +kernel
theorem l2i_1 : l2i 1 = 1 := by decide +kernel
def wuN (F : Int64) (k : Nat) : Nat := bfGo (fun v => if 128 ≤ Bt F v then 0 else 1) k
theorem wuN_bit (F : Int64) (k v : Nat) : (wuN F k).testBit v = true ↔ (v < k ∧ 128 ≤ Bt F v) := by
  unfold wuN
  rw [bfGo_bit]
  constructor
  · rintro ⟨h1, h2⟩
    refine ⟨h1, ?_⟩
    by_cases c : 128 ≤ Bt F v
    · exact c
    · rw [if_neg c] at h2; omega
  · rintro ⟨h1, h2⟩
    exact ⟨h1, if_pos h2⟩
theorem lp_wall {P : Int → IM → LM → Prop} (hP : P ((wuN (l 83 9) 8 : Nat) : Int) i l) : ∀ r k : Nat, k + r = 8 → gI w d X_X3_walledUp P i l 4 [(0, vR (some 83)), (1, vI ((wuN (l 83 9) k : Nat) : Int)), (2, vI (k : Int))] [] := by
  intro r
  induction r with
  | zero =>
    intro k hk
    have e : k = 8 := by omega
    subst e
    have := bfGo_lt (fun v => if 128 ≤ Bt (l 83 9) v then 0 else 1) 8
    have h2 : wuN (l 83 9) 8 < 256 := this
    exact s_X3_walledUp_4 _ _ ⟨⟨by omega, by omega⟩, fun _ => ⟨⟨by omega, by omega⟩, hP⟩, fun z => by omega⟩
  | succ r ih =>
    intro k hk
    have hk8 : k < 8 := by omega
    have hnx := ih (k + 1) (by omega)
    have hlt := bfGo_lt (fun v => if 128 ≤ Bt (l 83 9) v then 0 else 1) k
    have hlt2 : wuN (l 83 9) k < 2 ^ k := hlt
    have h2k : 2 ^ k ≤ 2 ^ 7 := Nat.pow_le_pow_right (by omega) (by omega)
    have est : wuN (l 83 9) (k + 1) = if (if 128 ≤ Bt (l 83 9) k then (0 : Int) else 1) = 0 then wuN (l 83 9) k ||| 2 ^ k else wuN (l 83 9) k := rfl
    refine s_X3_walledUp_4 _ _ ⟨⟨by omega, by omega⟩, fun z => by omega, fun _ => ?_⟩
    by_cases c : 128 ≤ Bt (l 83 9) k
    · have e1 : (lushr (l 83 9) (8 * (k : Int) + 7)) &&& 1 = 1 := (bit7 _ hk8).mpr c
      rw [if_pos c, if_pos rfl] at est
      rw [est] at hnx
      rw [e1, l2i_1, ishl_one (by omega), ior_nat (by omega) (by omega)]
      exact hnx
    · have e0 : (lushr (l 83 9) (8 * (k : Int) + 7)) &&& 1 = 0 := by
        have h1 : ¬ (lushr (l 83 9) (8 * (k : Int) + 7)) &&& 1 = 1 := fun z => c ((bit7 _ hk8).mp z)
        have e : 8 * (k : Int) + 7 = ((8 * k + 7 : Nat) : Int) := by omega
        have hn : nL ((lushr (l 83 9) (8 * (k : Int) + 7)) &&& 1) = nL (l 83 9) / 2 ^ (8 * k + 7) % 2 := by
          rw [nL_and, e, nL_shr _ (by omega), nL_lit1, Nat.and_one_is_mod]
        have h0 : nL 0 = 0 := by decide +kernel
        apply nL_ext
        rw [h0]
        have hne : ¬ nL ((lushr (l 83 9) (8 * (k : Int) + 7)) &&& 1) = 1 := fun z => h1 (nL_ext (by rw [z, nL_lit1]))
        omega
      rw [if_neg c, if_neg (by decide)] at est
      rw [est] at hnx
      have es : ishl 0 (k : Int) = ((0 : Nat) : Int) := by
        have := ishl_nat (a := 0) (k := k) (by omega) (by omega)
        rw [Nat.zero_mul] at this
        exact this
      rw [e0, l2i_0, es, ior_nat (by omega) (by omega), Nat.or_zero]
      exact hnx
theorem sp_X3_walledUp {P : Int → IM → LM → Prop} (hd : 1 ≤ d) (hP : P ((wuN (l 83 9) 8 : Nat) : Int) i l) : cI w d X_X3_walledUp [vR (some 83)] i l P := by
  obtain ⟨d, rfl, hd1⟩ := d_pos hd
  exact e_X3_walledUp (s_X3_walledUp (lp_wall hP 8 0 rfl))
theorem and255m (n : Nat) : n &&& 255 = n % 256 := Nat.and_two_pow_sub_one_eq_mod n 8
/-- the least tallies, one by one -/
theorem sp_X5_fewestOf {P : Int → IM → LM → Prop} {a : Nat} (ha : a = 63 ∨ a = 73) (hd : 1 ≤ d) {x y z : Nat} (hx : x < 256) (hy : y < 256) (hz : z < 256) (h14 : i a 14 = pk3 x y z) {p : Int} (hp : 0 ≤ p ∧ p ≤ 2) (hP : P (if p = 0 then (x : Int) else if p = 1 then (y : Int) else (z : Int)) i l) : cI w d X_X5_fewestOf [vR (some a), vI p] i l P := by
  obtain ⟨d, rfl, hd1⟩ := d_pos hd
  refine e_X5_fewestOf (s_X5_fewestOf _ ha ?_)
  have en : i a 14 = ((x + 256 * (y + 256 * z) : Nat) : Int) := by rw [h14]; unfold pk3; omega
  rw [en]
  have hlt : x + 256 * (y + 256 * z) < 2147483648 := by omega
  have hcase : p = 0 ∨ p = 1 ∨ p = 2 := by omega
  have c255 : (255 : Int) = ((255 : Nat) : Int) := rfl
  rcases hcase with e | e | e
  · subst e
    have e1 : (8 * (0 : Int)) = ((0 : Nat) : Int) := rfl
    rw [e1, ishr_nat hlt (by omega), c255, iand_nat (by omega), and255m]
    have : (x + 256 * (y + 256 * z)) / 2 ^ 0 % 256 = x := by rw [Nat.pow_zero, Nat.div_one]; omega
    rw [this]
    exact hP
  · subst e
    have e1 : (8 * (1 : Int)) = ((8 : Nat) : Int) := rfl
    rw [e1, ishr_nat hlt (by omega), c255]
    have h2 : (x + 256 * (y + 256 * z)) / 2 ^ 8 = y + 256 * z := by show _ / 256 = _; omega
    rw [h2, iand_nat (by omega), and255m]
    have : (y + 256 * z) % 256 = y := by omega
    rw [this]
    exact hP
  · subst e
    have e1 : (8 * (2 : Int)) = ((16 : Nat) : Int) := rfl
    rw [e1, ishr_nat hlt (by omega), c255]
    have h2 : (x + 256 * (y + 256 * z)) / 2 ^ 16 = z := by show _ / 65536 = _; omega
    rw [h2, iand_nat (by omega), and255m]
    have : z % 256 = z := by omega
    rw [this]
    exact hP
end
