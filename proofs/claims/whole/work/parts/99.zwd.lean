/-! TOKENS in the class: numbers and words -/
section
variable {w : Wd} {d : Nat} {i : IM} {l : LM}
theorem lp_dg {P : IM → LM → Prop} (hd : 1 ≤ d) {n p : Nat} (hn : n ≤ 400) (h4 : i 37 4 = (n : Int)) (hpn : p < n) (hdg : isDg (BT i) p = true) (hP : ∀ i', stf i i' → Rd1 (BT i) n p i' → P i' l) : ∀ r k : Nat, k + r = n → p ≤ k → whl (isDg (BT i)) (n - k) k = enT (BT i) n p → ∀ i', stf i i' → i' 37 5 = (p : Int) → i' 37 6 = (k : Int) → i' 37 8 = vC (BT i) p (k - p) → gV w d X_X7_step P i' l 158 [(0, vR (some 37))] [] := by
  have hlw : ¬ isLw (BT i) p = true := by
    have := of_decide_eq_true hdg
    intro z
    have := of_decide_eq_true z
    omega
  have fin : ∀ k : Nat, k = enT (BT i) n p → ∀ i', stf i i' → i' 37 5 = (p : Int) → i' 37 6 = (k : Int) → i' 37 8 = vC (BT i) p (k - p) → P (u2 i' 37 7 256) l := fun k hk i' hf h5 h6 h8 => by
    refine hP _ (stf_u hf (by omega)) ⟨by rw [u2_at, if_neg (by decide), h5], fun _ => ⟨?_, by rw [u2_at, if_neg (by decide), h6, hk], fun _ => by rw [u2_at, if_neg (by decide), h8, hk]⟩, fun z => absurd hpn z⟩
    rw [u2_self]
    unfold tcC
    rw [if_neg hlw, if_pos hdg]
  intro r
  induction r with
  | zero =>
    intro k hk hpk he i' hf h5 h6 h8
    have e4 : i' 37 4 = (n : Int) := by rw [hf.2 4 (by decide) (by decide) (by decide) (by decide), h4]
    refine s_X7_step_158 hd ⟨fun z => by omega, fun _ => fin k ?_ i' hf h5 h6 h8, fun z => absurd (Or.inl (by omega)) z⟩
    rw [← he]; exact (whl_end (by omega)).symm
  | succ r ih =>
    intro k hk hpk he i' hf h5 h6 h8
    have e4 : i' 37 4 = (n : Int) := by rw [hf.2 4 (by decide) (by decide) (by decide) (by decide), h4]
    have e35 : i' 35 (i' 37 6) = BT i k := by rw [hf.1 35 (by decide), h6]; rfl
    refine s_X7_step_158 hd ⟨fun _ => ⟨by omega, by omega⟩, fun z => ?_, fun z => ?_⟩
    · rcases z with z | z
      · omega
      · rw [e35] at z
        refine fin k ?_ i' hf h5 h6 h8
        rw [← he]; exact (whl_no (decide_eq_false z)).symm
    · have z2 : 48 ≤ BT i k ∧ BT i k ≤ 57 := by
        by_cases c : 48 ≤ BT i k ∧ BT i k ≤ 57
        · exact c
        · exact absurd (Or.inr (by rw [e35]; exact c)) z
      have hin : ∀ q, q < k - p → 48 ≤ BT i (p + q) ∧ BT i (p + q) ≤ 57 := fun q hq => by
        refine enT_dg (n := n) hdg ?_
        have := whl_le (isDg (BT i)) (n - k) k
        omega
      have hv := v_ok (B := BT i) (k := p) (k - p) hin
      have hvc : 0 ≤ vC (BT i) p (k - p) ∧ vC (BT i) p (k - p) ≤ 1001 := by
        rw [hv.2]; have := hv.1; split <;> omega
      rw [h8, e35]
      refine ⟨⟨by omega, by omega⟩, ⟨by omega, by omega⟩, ?_, ?_⟩
      · rw [u2_at, if_neg (by decide), h6]; exact ⟨by omega, by omega⟩
      · refine ih (k + 1) (by omega) (by omega) ?_ _ (stf_u (stf_u hf (by omega)) (by omega)) ?_ ?_ ?_
        · rw [← he]; exact (whl_go (by omega) (decide_eq_true z2)).symm
        · rw [u2_at, if_neg (by decide), u2_at, if_neg (by decide), h5]
        · rw [u2_self, u2_at, if_neg (by decide), h6]; omega
        · rw [u2_at, if_neg (by decide), u2_self, show k + 1 - p = (k - p) + 1 by omega]
          show _ = min (vC (BT i) p (k - p) * 10 + BT i (p + (k - p)) - 48) 1001
          rw [show p + (k - p) = k by omega]
end
