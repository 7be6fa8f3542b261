/-! judge, in the model -/
/-- the first WINDOW from v on that does not HOLD (n more are looked at) -/
def fwGo (i : IM) (cs : List Cla) (m : Nat) : Nat → Nat → Option Nat
  | 0, _ => none
  | n + 1, v => if hB i cs (v : Int) (m : Int) = 0 then some v else fwGo i cs m n (v + 1)
/-- the first MINUTE from m on, and WINDOW -/
def fmGo (i : IM) (cs : List Cla) (W : Nat) : Nat → Nat → Option (Nat × Nat)
  | 0, _ => none
  | n + 1, m => match fwGo i cs m W 0 with
    | some v => some (m, v)
    | none => fmGo i cs W n (m + 1)
def rowBad (i : IM) (cs : List Cla) (m : Nat) (n : Nat) : Int := sumGo (fun v => bI (hB i cs (v : Int) (m : Int) = 0)) n
def mTotal (i : IM) (cs : List Cla) (n : Nat) : Int := sumGo (fun m => rowBad i cs m (i 101 308).toNat) n
def mJudge (i : IM) (cs : List Cla) (what : Int) : Int := if 0 ≤ what ∧ what ≤ 2 then (if what = 2 then mTotal i cs 120 else match fmGo i cs (i 101 308).toNat 120 0 with
    | some q => if what = 0 then (q.1 : Int) else (q.2 : Int)
    | none => -1) else -1
section
variable {w : Wd} {d : Nat} {l : LM}
theorem rowBad_le (i : IM) (cs : List Cla) (m n : Nat) : 0 ≤ rowBad i cs m n ∧ rowBad i cs m n ≤ 1 * n := sumGo_le (b := 1) n (fun _ _ => bI_le _)
/-- counting all -/
theorem lp_judge2 {P : Int → IM → LM → Prop} {i : IM} {A : Nat → List Cla} (hd : 80 ≤ d) (hk : kOK (i 101)) (hf : forceM (i 101) A) (hc : hasDep (inForce (i 101) A)) (hP : ∀ i', scrM i i' → P (mTotal i (inForce (i 101) A) 120) i' l) : ∀ m n : Nat, n + m = 120 → ∀ i', scrM i i' → gI w d X_X12_judge P i' l 15 [(0, vR (some 99)), (1, vI 2), (2, vI (mTotal i (inForce (i 101) A) n)), (3, vI (n : Int))] [] := by
  have h308 := hk.1.2.1
  intro m
  induction m with
  | zero =>
    intro n hn i' hi
    have e : n = 120 := by omega
    subst e
    have hb := sumGo_le (g := fun m => rowBad i (inForce (i 101) A) m (i 101 308).toNat) (b := 8) 120 (fun k _ => by have := rowBad_le i (inForce (i 101) A) k (i 101 308).toNat; omega)
    refine s_X12_judge_15 _ _ _ ⟨rg_lit rfl, fun _ => ⟨rg_lit rfl, ?_⟩, fun q => absurd (by decide) q⟩
    rw [if_pos rfl]
    exact ⟨⟨by show -2147483648 ≤ mTotal _ _ _; unfold mTotal; omega, by show mTotal _ _ _ < _; unfold mTotal; omega⟩, hP i' hi⟩
  | succ m ih =>
    intro n hn i' hi
    refine s_X12_judge_15 _ _ _ ⟨⟨by omega, by omega⟩, fun q => absurd q (by omega), fun _ => ?_⟩
    have inner : ∀ r v : Nat, v + r = (i 101 308).toNat → ∀ i', scrM i i' → gI w d X_X12_judge P i' l 24 [(0, vR (some 99)), (1, vI 2), (2, vI (mTotal i (inForce (i 101) A) n + rowBad i (inForce (i 101) A) n v)), (3, vI (n : Int)), (4, vI (v : Int))] [] := by
      intro r
      induction r with
      | zero =>
        intro v hv i' hi
        have e1 : i' 101 = i 101 := scrM_c hi (by decide) (by decide)
        refine s_X12_judge_24 _ _ _ _ (by omega) ⟨⟨by omega, by omega⟩, fun _ => ?_, fun q => absurd (by rw [e1]; omega) q⟩
        have := ih (n + 1) (by omega) i' hi
        have e2 : v = (i 101 308).toNat := by omega
        rw [e2]
        exact this
      | succ r ih2 =>
        intro v hv i' hi
        have e1 : i' 101 = i 101 := scrM_c hi (by decide) (by decide)
        refine s_X12_judge_24 _ _ _ _ (by omega) ⟨⟨by omega, by omega⟩, fun q => absurd q (by rw [e1]; omega), fun _ => ?_⟩
        refine sp_X12_holds hd (by rw [e1]; exact hk) (A := A) (by rw [e1]; exact hf) (by rw [e1]; exact hc) ⟨by omega, by omega⟩ ⟨by omega, by omega⟩ (fun i2 hi2 => ?_)
        have e2 : bI (popI (mSeen i' (inForce (i' 101) A) (v : Int) (n : Int) (-1) (-1)) ≤ fLimit (inForce (i' 101) A) (v : Int) (i' 101 313) (n : Int)) = hB i (inForce (i 101) A) (v : Int) (n : Int) := by
          rw [← hB_scr hi]
          unfold hB
          rw [e1]
        rw [e2]
        have hnext := ih2 (v + 1) (by omega) i2 (scrM_tr hi hi2)
        have hs : rowBad i (inForce (i 101) A) n (v + 1) = rowBad i (inForce (i 101) A) n v + bI (hB i (inForce (i 101) A) (v : Int) (n : Int) = 0) := rfl
        refine ⟨fun _ => rg_lit rfl, fun q => ?_, fun q => absurd q.2.2 (by decide), fun q => absurd q.2 (by decide), fun q => ?_⟩
        · rw [hs, bI_t q.1, ← Int.add_assoc] at hnext
          exact hnext
        · rw [hs, bI_f q, Int.add_zero] at hnext
          exact hnext
    have := inner _ 0 (Nat.zero_add _) i' hi
    have e0 : rowBad i (inForce (i 101) A) n 0 = 0 := rfl
    rw [e0, Int.add_zero] at this
    exact this
/-- looking for the first -/
theorem lp_judge1 {P : Int → IM → LM → Prop} {i : IM} {A : Nat → List Cla} (hd : 80 ≤ d) (hk : kOK (i 101)) (hf : forceM (i 101) A) (hc : hasDep (inForce (i 101) A)) {what : Int} (hw : what = 0 ∨ what = 1) : ∀ m n : Nat, n + m = 120 → (∀ i', scrM i i' → P (match fmGo i (inForce (i 101) A) (i 101 308).toNat m n with
    | some q => if what = 0 then (q.1 : Int) else (q.2 : Int)
    | none => -1) i' l) → ∀ i', scrM i i' → gI w d X_X12_judge P i' l 15 [(0, vR (some 99)), (1, vI what), (2, vI 0), (3, vI (n : Int))] [] := by
  have h308 := hk.1.2.1
  intro m
  induction m with
  | zero =>
    intro n hn hP i' hi
    refine s_X12_judge_15 _ _ _ ⟨⟨by omega, by omega⟩, fun _ => ⟨⟨by omega, by omega⟩, ?_⟩, fun q => absurd (by omega) q⟩
    rw [if_neg (by omega)]
    exact ⟨rg_lit rfl, hP i' hi⟩
  | succ m ih =>
    intro n hn hP i' hi
    refine s_X12_judge_15 _ _ _ ⟨⟨by omega, by omega⟩, fun q => absurd q (by omega), fun _ => ?_⟩
    have hm : fmGo i (inForce (i 101) A) (i 101 308).toNat (m + 1) n = match fwGo i (inForce (i 101) A) n (i 101 308).toNat 0 with
      | some v => some (n, v)
      | none => fmGo i (inForce (i 101) A) (i 101 308).toNat m (n + 1) := rfl
    have inner : ∀ r v : Nat, v + r = (i 101 308).toNat → fwGo i (inForce (i 101) A) n (i 101 308).toNat 0 = fwGo i (inForce (i 101) A) n r v → ∀ i', scrM i i' → gI w d X_X12_judge P i' l 24 [(0, vR (some 99)), (1, vI what), (2, vI 0), (3, vI (n : Int)), (4, vI (v : Int))] [] := by
      intro r
      induction r with
      | zero =>
        intro v hv hfw i' hi
        have e1 : i' 101 = i 101 := scrM_c hi (by decide) (by decide)
        refine s_X12_judge_24 _ _ _ _ (by omega) ⟨⟨by omega, by omega⟩, fun _ => ?_, fun q => absurd (by rw [e1]; omega) q⟩
        rw [hm, hfw] at hP
        exact ih (n + 1) (by omega) hP i' hi
      | succ r ih2 =>
        intro v hv hfw i' hi
        have e1 : i' 101 = i 101 := scrM_c hi (by decide) (by decide)
        have hfv : fwGo i (inForce (i 101) A) n (r + 1) v = if hB i (inForce (i 101) A) (v : Int) (n : Int) = 0 then some v else fwGo i (inForce (i 101) A) n r (v + 1) := rfl
        refine s_X12_judge_24 _ _ _ _ (by omega) ⟨⟨by omega, by omega⟩, fun q => absurd q (by rw [e1]; omega), fun _ => ?_⟩
        refine sp_X12_holds hd (by rw [e1]; exact hk) (A := A) (by rw [e1]; exact hf) (by rw [e1]; exact hc) ⟨by omega, by omega⟩ ⟨by omega, by omega⟩ (fun i2 hi2 => ?_)
        have e2 : bI (popI (mSeen i' (inForce (i' 101) A) (v : Int) (n : Int) (-1) (-1)) ≤ fLimit (inForce (i' 101) A) (v : Int) (i' 101 313) (n : Int)) = hB i (inForce (i 101) A) (v : Int) (n : Int) := by
          rw [← hB_scr hi]
          unfold hB
          rw [e1]
        rw [e2]
        refine ⟨fun _ => ⟨by omega, by omega⟩, fun q => absurd q.2 (by omega), fun q => ⟨⟨by omega, by omega⟩, ?_⟩, fun q => ⟨⟨by omega, by omega⟩, ?_⟩, fun q => ?_⟩
        · have := hP i2 (scrM_tr hi hi2)
          rw [hm, hfw, hfv, if_pos q.1] at this
          simp only at this
          rw [if_neg q.2.1] at this
          exact this
        · have := hP i2 (scrM_tr hi hi2)
          rw [hm, hfw, hfv, if_pos q.1] at this
          simp only at this
          rw [if_pos q.2] at this
          exact this
        · refine ih2 (v + 1) (by omega) ?_ i2 (scrM_tr hi hi2)
          rw [hfw, hfv, if_neg q]
    exact inner _ 0 (Nat.zero_add _) rfl i' hi
theorem sp_X12_judge {P : Int → IM → LM → Prop} {i : IM} {A : Nat → List Cla} (hd : 81 ≤ d) (hk : kOK (i 101)) (hf : forceM (i 101) A) (hc : hasDep (inForce (i 101) A)) {what : Int} (h0 : rg what) (hP : ∀ i', scrM i i' → P (mJudge i (inForce (i 101) A) what) i' l) : cI w d X_X12_judge [vR (some 99), vI what] i l P := by
  obtain ⟨d, rfl, hd1⟩ := d_pos hd
  unfold mJudge at hP
  refine e_X12_judge (s_X12_judge _ (by omega) ⟨h0, fun q => ?_, fun q => ?_⟩)
  · rw [if_pos q] at hP
    by_cases h2 : what = 2
    · rw [if_pos h2] at hP
      subst h2
      exact lp_judge2 hd1 hk hf hc hP 120 0 rfl i (scrM_rf i)
    · rw [if_neg h2] at hP
      exact lp_judge1 hd1 hk hf hc (by omega) 120 0 rfl hP i (scrM_rf i)
  · have := hP i (scrM_rf i)
    rw [if_neg q] at this
    exact this
end
