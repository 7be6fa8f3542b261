/-! the search from its start -/
section
theorem cntL_0 : cntL 0 = 0 := by decide +kernel
/-- rows that may fail at all -/
def opGo (Z : RW) : Nat → Nat
  | 0 => 0
  | q + 1 => if mfL Z 0 q 0 (Z.2.2.1 q) (Z.2.2.1 q) = 0 then opGo Z q else opGo Z q ||| 2 ^ q
theorem opGo_lt (Z : RW) : ∀ k, opGo Z k < 2 ^ k
  | 0 => by show 0 < 1; omega
  | k + 1 => by
    have ih := opGo_lt Z k
    have h2k : 2 ^ k < 2 ^ (k + 1) := Nat.pow_lt_pow_right (by omega) (by omega)
    unfold opGo
    split
    · omega
    · exact Nat.or_lt_two_pow (Nat.lt_trans ih h2k) h2k
theorem opGo_bit (Z : RW) : ∀ k q, q < k → ((opGo Z k).testBit q = true ↔ ¬ mfL Z 0 q 0 (Z.2.2.1 q) (Z.2.2.1 q) = 0)
  | 0, q, h => by omega
  | k + 1, q, h => by
    have ih := opGo_bit Z k
    have hk0 : (opGo Z k).testBit k = false := Nat.testBit_lt_two_pow (opGo_lt Z k)
    unfold opGo
    by_cases b : mfL Z 0 k 0 (Z.2.2.1 k) (Z.2.2.1 k) = 0
    · rw [if_pos b]
      by_cases e : q = k
      · subst e; rw [hk0]; exact ⟨fun z => (by cases z), fun z => absurd b z⟩
      · exact ih q (by omega)
    · rw [if_neg b, Nat.testBit_or, Bool.or_eq_true, bit_pow]
      by_cases e : q = k
      · subst e; exact ⟨fun _ => b, fun _ => Or.inr rfl⟩
      · rw [ih q (by omega)]
        exact ⟨fun z => z.elim id (fun y => absurd y.symm e), Or.inl⟩
abbrev o0 : Nat → Nat := fun _ => 0
def goX (C : PC) (Z : RW) (aim : Int) (M : Int64) (n : Nat) (s : SA) : SA := if opGo Z Z.1 = 0 then addB (blk C n 0 o0) s else exX C Z aim M n 0 o0 (opGo Z Z.1) s
theorem ld0 (Z : RW) (q : Nat) : ldL Z (vw Z o0 q 0) q = Z.2.2.1 q := by
  show cntL 0 + Z.2.2.1 q = _
  rw [cntL_0, Int64.zero_add]
theorem op_clo {C : PC} {Z : RW} {n : Nat} (hZ : RWok C Z n) : clo C Z n 0 o0 (opGo Z Z.1) := by
  intro q hq hb o' he
  have h1 : mfL Z 0 q 0 (Z.2.2.1 q) (Z.2.2.1 q) = 0 := by
    by_cases z : mfL Z 0 q 0 (Z.2.2.1 q) (Z.2.2.1 q) = 0
    · exact z
    · have := (opGo_bit Z Z.1 q hq).mpr z
      rw [hb] at this; cases this
  refine mf_ok hZ (Nat.zero_le _) he hq ?_
  rw [ld0]
  exact h1
theorem op_n0 {C : PC} {Z : RW} (hZ : RWok C Z 0) : opGo Z Z.1 = 0 := by
  apply Nat.eq_of_testBit_eq
  intro q
  rw [Nat.zero_testBit]
  by_cases hq : q < Z.1
  · cases hb : (opGo Z Z.1).testBit q with
    | false => rfl
    | true =>
      have h1 := (opGo_bit Z Z.1 q hq).mp hb
      exfalso
      apply h1
      have hov : ovr Z (vw Z o0 q 0) q = false := by
        rw [ovr_iff hZ _ hq]
        intro v hv
        have h2 := hZ.2.1 q v hq hv
        have h3 : Bt (vw Z o0 q 0) v = 0 := (Bt_lit v hv).2.2.2.2.2.2.1
        rw [h3]
        have : cntB 0 8 = 0 := by decide
        omega
      have := mf_end hZ hq hov (Z.2.2.1 q)
      rw [ld0] at this
      exact this
  · exact Nat.testBit_lt_two_pow (Nat.lt_of_lt_of_le (opGo_lt _ _) (Nat.pow_le_pow_right (by omega) (by omega)))
theorem ext_0 {may : Nat → Nat → Bool} {n : Nat} {o' : Nat → Nat} : ext may n 0 o0 o' ↔ ∀ j, j < n → may j (o' j) = true ∧ o' j < 3 :=
  ⟨fun h j hj => h.2 j (Nat.zero_le _) hj, fun h => ⟨fun j hj => by omega, fun j _ hj => h j hj⟩⟩
theorem goX_all {C : PC} {Z : RW} {M : Int64} {n : Nat} (hC : hasC C n) (hZ : RWok C Z n) (s : SA) : goX C Z 0 M n s = pG C.1 (fun o s => if gd Z n o = true then addB (one C n o) s else s) n 0 o0 s := by
  unfold goX
  have hcl := op_clo hZ
  by_cases z : opGo Z Z.1 = 0
  · rw [if_pos z, ← pG_blk hC n 0 o0 s (Nat.zero_add _)]
    rw [z] at hcl
    exact pG_cg (n := n) n 0 _ s (Nat.zero_add _) (fun o' s' he => by rw [if_pos (clo_good hcl he)])
  · rw [if_neg z]
    cases n with
    | zero => exact absurd (op_n0 hZ) z
    | succ n => exact exX_all hC hZ n 0 o0 _ s (Nat.zero_add _) hcl
theorem goX_any {C : PC} {Z : RW} {M : Int64} {n : Nat} (hC : hasC C n) (hZ : RWok C Z n) (hM : Mok Z M) (hM2 : ∀ v, v < 8 → Bt M v = 255 ∨ Bt M v = 0) {s : SA} (hs : 0 ≤ s.1) : 0 < (goX C Z 1 M n s).1 ↔ 0 < s.1 ∨ anP C Z n 0 o0 := by
  unfold goX
  have hcl := op_clo hZ
  by_cases z : opGo Z Z.1 = 0
  · rw [if_pos z]
    rw [z] at hcl
    have hp := (sx_pos hC n 0 (Nat.zero_add _)).2
    have hb := blk_ext hC (Nat.zero_add n) o0
    have e : (addB (blk C n 0 o0) s).1 = s.1 + (sx C n 0).1 := rfl
    rw [e]
    exact ⟨fun _ => Or.inr ⟨_, hb.1, clo_good hcl hb.1⟩, fun _ => by omega⟩
  · rw [if_neg z]
    cases n with
    | zero => exact absurd (op_n0 hZ) z
    | succ n => exact (exX_any hC hZ hM hM2 n 0 o0 _ s (Nat.zero_add _) hcl hs).2
theorem goX_high {C : PC} {Z : RW} {M : Int64} {n : Nat} (hC : hasC C n) (hZ : RWok C Z n) (hM : Mok Z M) (hM2 : ∀ v, v < 8 → Bt M v = 255 ∨ Bt M v = 0) {s : SA} (hs : 0 < s.2.1.1) : hiP C Z n 0 o0 s.2.1.2.1 (goX C Z 2 M n s).2.1.2.1 ∧ ∀ o', ext C.1 n 0 o0 o' → gd Z n o' = true → vs C.2.1 o' n ≤ (goX C Z 2 M n s).2.1.2.1 := by
  unfold goX
  have hcl := op_clo hZ
  by_cases z : opGo Z Z.1 = 0
  · rw [if_pos z]
    rw [z] at hcl
    have hp := (sx_pos hC n 0 (Nat.zero_add _)).1
    have hb := blk_ext hC (Nat.zero_add n) o0
    have hu := upB_v (T := (blk C n 0 o0).2.1) (p := (blk C n 0 o0).2.2.1) (f := (blk C n 0 o0).2.2.2.1) hp hs
    have ev : (addB (blk C n 0 o0) s).2.1.2.1 = max s.2.1.2.1 (blk C n 0 o0).2.2.1 := hu.2
    rw [ev]
    refine ⟨⟨by omega, ?_⟩, fun o' he _ => ?_⟩
    · by_cases y : (blk C n 0 o0).2.2.1 ≤ s.2.1.2.1
      · left; omega
      · right
        exact ⟨_, hb.1, clo_good hcl hb.1, by rw [hb.2]; omega⟩
    · have h1 := vs_top hC (o' := o') n 0 (Nat.zero_add _) he.2
      have e2 : (blk C n 0 o0).2.2.1 = 0 + (sx C n 0).2.2.1 := rfl
      have e3 : vs C.2.1 o' 0 = 0 := rfl
      omega
  · rw [if_neg z]
    cases n with
    | zero => exact absurd (op_n0 hZ) z
    | succ n => exact (exX_high hC hZ hM hM2 n 0 o0 _ s (Nat.zero_add _) hcl hs).2
end
