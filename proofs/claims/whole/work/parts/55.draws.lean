/-! DRAWS, in the model -/
def drN (s : Int) : Int := (1103 * s + 12345) % 1000003
theorem drN_lt (s : Int) : 0 ≤ drN s ∧ drN s < 1000003 := ⟨Int.emod_nonneg _ (by decide), Int.emod_lt_of_pos _ (by decide)⟩
theorem dr_long {s : Int} (h : 0 ≤ s ∧ s < 1000003) : l2i ((1103 * i2l s + 12345) - (1103 * i2l s + 12345) / 1000003 * 1000003) = drN s := by
  have e1 : (1103 : Int64) * i2l s + 12345 = Int64.ofInt (1103 * s + 12345) := by
    rw [i2l_L64 ⟨by omega, by omega⟩, Int64.ofInt_add, Int64.ofInt_mul]
    rfl
  have e2 : Int64.ofInt (1103 * s + 12345) / 1000003 = Int64.ofInt ((1103 * s + 12345).tdiv 1000003) := by
    apply Int64.toInt_inj.mp
    have e3 : (1000003 : Int64).toInt = 1000003 := by decide +kernel
    rw [Int64.toInt_div, L64_toInt ⟨by omega, by omega⟩, e3, Int64.toInt_ofInt]
  have e4 : Int64.ofInt ((1103 * s + 12345).tdiv 1000003) * 1000003 = Int64.ofInt ((1103 * s + 12345).tdiv 1000003 * 1000003) := by
    rw [Int64.ofInt_mul]
    rfl
  rw [e1, e2, e4, ← Int64.ofInt_sub]
  have e5 : 1103 * s + 12345 - (1103 * s + 12345).tdiv 1000003 * 1000003 = drN s := by
    unfold drN
    rw [Int.tdiv_eq_ediv_of_nonneg (by omega)]
    have := Int.emod_add_mul_ediv (1103 * s + 12345) 1000003
    omega
  have := drN_lt s
  rw [e5, l2i_L64 ⟨by omega, by omega⟩]
theorem sp_X12_draws {w : Wd} {d : Nat} {i : IM} {l : LM} {P : Int → IM → LM → Prop} (hd : 1 ≤ d) {n : Int} (hn : 0 < n ∧ n < 1000) (hs : 0 ≤ i 99 51 ∧ i 99 51 < 1000003) (hP : P (drN (i 99 51) % n) (u2 i 99 51 (drN (i 99 51))) l) : cI w d X_X12_draws [vR (some 99), vI n] i l P := by
  obtain ⟨d, rfl, hd1⟩ := d_pos hd
  have hr := drN_lt (i 99 51)
  have e : ∀ v : Int, u2 i 99 51 v 99 51 = v := fun v => u2_self i 99 51 v
  have em : Int.tmod (drN (i 99 51)) n = drN (i 99 51) % n := Int.tmod_eq_emod_of_nonneg hr.1
  have h1 := Int.emod_nonneg (drN (i 99 51)) (show n ≠ 0 by omega)
  have h2 := Int.emod_lt_of_pos (drN (i 99 51)) hn.1
  refine e_X12_draws (s_X12_draws _ ?_)
  rw [dr_long hs, e, em]
  exact ⟨⟨by omega, by omega⟩, by omega, ⟨by omega, by omega⟩, hP⟩
theorem sp_X4_drawOf {w : Wd} {d : Nat} {i : IM} {l : LM} {P : Int → IM → LM → Prop} (hd : 1 ≤ d) {n : Int} (hn : 0 < n ∧ n < 1000) (hs : 0 ≤ i 94 4 ∧ i 94 4 < 1000003) (hP : P (drN (i 94 4) % n) (u2 i 94 4 (drN (i 94 4))) l) : cI w d X_X4_drawOf [vR (some 94), vI n] i l P := by
  obtain ⟨d, rfl, hd1⟩ := d_pos hd
  have hr := drN_lt (i 94 4)
  have e : ∀ v : Int, u2 i 94 4 v 94 4 = v := fun v => u2_self i 94 4 v
  have e0 : Int.tmod (i 94 4 * 1103 + 12345) 1000003 = drN (i 94 4) := by
    unfold drN
    rw [Int.tmod_eq_emod_of_nonneg (by omega), Int.mul_comm]
  have em : Int.tmod (drN (i 94 4)) n = drN (i 94 4) % n := Int.tmod_eq_emod_of_nonneg hr.1
  have h1 := Int.emod_nonneg (drN (i 94 4)) (show n ≠ 0 by omega)
  have h2 := Int.emod_lt_of_pos (drN (i 94 4)) hn.1
  refine e_X4_drawOf (s_X4_drawOf _ ?_)
  rw [e0, e, em, if_neg (by omega)]
  exact ⟨⟨by omega, by omega⟩, ⟨by omega, by omega⟩, ⟨by omega, by omega⟩, fun _ => by omega, ⟨by omega, by omega⟩, hP⟩
/-- the k-th of the STREETS from q on (n more are looked at), or b -/
def strGo (S : Nat) : Nat → Nat → Int → Int → Int
  | 0, _, _, b => b
  | n + 1, q, k, b => if k = 0 then b else if S.testBit q = true then strGo S n (q + 1) (k - 1) (q : Int) else strGo S n (q + 1) k b
