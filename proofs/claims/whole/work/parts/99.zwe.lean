/-! TOKENS in the class: words -/
section
variable {w : Wd} {d : Nat} {i : IM} {l : LM}
theorem lp_lw {P : IM → LM → Prop} (hd : 5 ≤ d) {n p : Nat} (hn : n ≤ 400) (h4 : i 37 4 = (n : Int)) (hpn : p < n) (hlw : isLw (BT i) p = true) (hP : ∀ i', stf i i' → Rd1 (BT i) n p i' → P i' l) : ∀ r k : Nat, k + r = n → p ≤ k → whl (isLw (BT i)) (n - k) k = enT (BT i) n p → ∀ i', stf i i' → i' 37 5 = (p : Int) → i' 37 6 = (k : Int) → gV w d X_X7_step P i' l 88 [(0, vR (some 37))] [] := by
  have hdg : ¬ isDg (BT i) p = true := by
    have := of_decide_eq_true hlw
    intro z
    have := of_decide_eq_true z
    omega
  have fin : ∀ k : Nat, k ≤ n → p ≤ k → k = enT (BT i) n p → ∀ i', stf i i' → i' 37 5 = (p : Int) → i' 37 6 = (k : Int) → cI w d X_X7_wordThere [vR (some 37)] i' l (fun r74 i74 l74 => P (u2 i74 37 7 r74) l74) := fun k hkn hpk hk i' hf h5 h6 => by
    have eB : BT i' = BT i := by funext j; show i' 35 _ = i 35 _; rw [hf.1 35 (by decide)]
    refine sp_X7_wordThere hd hpk (by omega) h5 h6 ?_
    rw [eB]
    refine hP _ (stf_u hf (by omega)) ⟨by rw [u2_at, if_neg (by decide), h5], fun _ => ⟨?_, by rw [u2_at, if_neg (by decide), h6, hk], fun z => absurd z hdg⟩, fun z => absurd hpn z⟩
    rw [u2_self]
    unfold tcC
    rw [if_pos hlw, ← hk]
  intro r
  induction r with
  | zero =>
    intro k hk hpk he i' hf h5 h6
    have e4 : i' 37 4 = (n : Int) := by rw [hf.2 4 (by decide) (by decide) (by decide) (by decide), h4]
    refine s_X7_step_88 (by omega) ⟨fun z => by omega, fun _ => fin k (by omega) hpk ?_ i' hf h5 h6, fun z => absurd (Or.inl (by omega)) z⟩
    rw [← he]; exact (whl_end (by omega)).symm
  | succ r ih =>
    intro k hk hpk he i' hf h5 h6
    have e4 : i' 37 4 = (n : Int) := by rw [hf.2 4 (by decide) (by decide) (by decide) (by decide), h4]
    have e35 : i' 35 (i' 37 6) = BT i k := by rw [hf.1 35 (by decide), h6]; rfl
    refine s_X7_step_88 (by omega) ⟨fun _ => ⟨by omega, by omega⟩, fun z => ?_, fun z => ?_⟩
    · rcases z with z | z
      · omega
      · rw [e35] at z
        refine fin k (by omega) hpk ?_ i' hf h5 h6
        rw [← he]; exact (whl_no (decide_eq_false z)).symm
    · have z2 : 97 ≤ BT i k ∧ BT i k ≤ 122 := by
        by_cases c : 97 ≤ BT i k ∧ BT i k ≤ 122
        · exact c
        · exact absurd (Or.inr (by rw [e35]; exact c)) z
      refine ⟨⟨by omega, by omega⟩, ih (k + 1) (by omega) (by omega) ?_ _ (stf_u hf (by omega)) ?_ ?_⟩
      · rw [← he]; exact (whl_go (by omega) (decide_eq_true z2)).symm
      · rw [u2_at, if_neg (by decide), h5]
      · rw [u2_self, h6]; omega
end
