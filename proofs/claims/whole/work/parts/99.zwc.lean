/-! TOKENS in the class: step() -/
section
variable {w : Wd} {d : Nat} {i : IM} {l : LM}
def Rd1 (B : Nat → Int) (n p : Nat) (i : IM) : Prop := i 37 5 = (p : Int) ∧ (p < n → i 37 7 = tcC B n p ∧ i 37 6 = (enT B n p : Int) ∧ (isDg B p = true → i 37 8 = vC B p (enT B n p - p))) ∧ (¬ p < n → i 37 7 = -1 ∧ i 37 6 = (p : Int))
def stf (i i' : IM) : Prop := (∀ a, a ≠ 37 → i' a = i a) ∧ ∀ x : Int, x ≠ 5 → x ≠ 6 → x ≠ 7 → x ≠ 8 → i' 37 x = i 37 x
theorem stf_u {i i' : IM} (h : stf i i') {x v : Int} (hx : x = 5 ∨ x = 6 ∨ x = 7 ∨ x = 8) : stf i (u2 i' 37 x v) := ⟨fun a ha => by rw [u2_other _ _ _ ha, h.1 a ha], fun y y5 y6 y7 y8 => by rw [u2_at, if_neg (by omega), h.2 y y5 y6 y7 y8]⟩
theorem lp_skip {P : IM → LM → Prop} {n p : Nat} (hn : n ≤ 400) (h4 : i 37 4 = (n : Int)) (hP : ∀ i', stf i i' → i' 37 5 = (p : Int) → gV w d X_X7_step P i' l 46 [(0, vR (some 37))] []) : ∀ r k : Nat, k + r = n → skT (BT i) n k = p → ∀ i', stf i i' → i' 37 5 = (k : Int) → gV w d X_X7_step P i' l 8 [(0, vR (some 37))] [] := by
  intro r
  induction r with
  | zero =>
    intro k hk hp i' hf h5
    have e4 : i' 37 4 = (n : Int) := by rw [hf.2 4 (by decide) (by decide) (by decide) (by decide), h4]
    have ep : p = k := by rw [← hp]; exact whl_end (by omega)
    refine s_X7_step_8 ⟨fun z => by omega, fun _ => hP i' hf (by rw [ep]; exact h5), fun z => absurd (Or.inl (by omega)) z⟩
  | succ r ih =>
    intro k hk hp i' hf h5
    have e4 : i' 37 4 = (n : Int) := by rw [hf.2 4 (by decide) (by decide) (by decide) (by decide), h4]
    have e35 : i' 35 (i' 37 5) = BT i k := by rw [hf.1 35 (by decide), h5]; rfl
    refine s_X7_step_8 ⟨fun _ => ⟨by omega, by omega⟩, fun z => ?_, fun z => ⟨⟨by omega, by omega⟩, ?_⟩⟩
    · rcases z with z | z
      · omega
      · rw [e35] at z
        have ep : p = k := by rw [← hp]; exact whl_no (decide_eq_false z)
        exact hP i' hf (by rw [ep]; exact h5)
    · have z2 : BT i k = 32 := by
        by_cases c : BT i k = 32
        · exact c
        · exact absurd (Or.inr (by rw [e35]; exact c)) z
      refine ih (k + 1) (by omega) ?_ _ (stf_u hf (by omega)) (by rw [u2_self, h5]; omega)
      rw [← hp]
      exact (whl_go (by omega) (decide_eq_true z2)).symm
end
