/-! sees and bad, in the model -/
def hB (i : IM) (cs : List Cla) (v mi : Int) : Int := bI (popI (mSeen i cs v mi (-1) (-1)) ≤ fLimit cs v (i 101 313) mi)
theorem hB_scr {i i' : IM} (h : scrM i i') (cs : List Cla) (v mi : Int) : hB i' cs v mi = hB i cs v mi := by
  have e : i' 101 = i 101 := scrM_c h (by decide) (by decide)
  unfold hB
  rw [mSeen_scr h, e]
def sumGo (g : Nat → Int) : Nat → Int
  | 0 => 0
  | n + 1 => sumGo g n + g n
theorem sumGo_le {g : Nat → Int} {b : Int} : ∀ n, (∀ k, k < n → 0 ≤ g k ∧ g k ≤ b) → 0 ≤ sumGo g n ∧ sumGo g n ≤ b * n
  | 0, _ => ⟨Int.le_refl _, by show (0 : Int) ≤ b * 0; omega⟩
  | n + 1, h => by
    obtain ⟨a1, a2⟩ := sumGo_le n (fun k hk => h k (by omega))
    obtain ⟨b1, b2⟩ := h n (by omega)
    refine ⟨by show 0 ≤ sumGo g n + g n; omega, ?_⟩
    show sumGo g n + g n ≤ b * ((n : Int) + 1)
    rw [Int.mul_add, Int.mul_one]
    omega
theorem bI_le (p : Prop) [Decidable p] : 0 ≤ bI p ∧ bI p ≤ 1 := by
  unfold bI
  split <;> omega
def mSees (i : IM) (cs : List Cla) (v mi what : Int) : Int := if (0 ≤ v ∧ v < i 101 308) ∧ (0 ≤ mi ∧ mi ≤ 119) ∧ (0 ≤ what ∧ what ≤ 2) then (if what = 0 then mSeen i cs v mi (-1) (-1) else if what = 1 then fLimit cs v (i 101 313) mi else hB i cs v mi) else -1
def mBad (i : IM) (cs : List Cla) (v : Int) : Int := if 0 ≤ v ∧ v < i 101 308 then sumGo (fun m => bI (hB i cs v (m : Int) = 0)) 120 else -1
section
variable {w : Wd} {d : Nat} {l : LM}
theorem sp_X12_sees {P : Int → IM → LM → Prop} {i : IM} {A : Nat → List Cla} (hd : 82 ≤ d) (hk : kOK (i 101)) (hf : forceM (i 101) A) (hc : hasDep (inForce (i 101) A)) {v mi what : Int} (h0 : rg v) (h1 : rg mi) (h2 : rg what) (hP : ∀ i', scrM i i' → P (mSees i (inForce (i 101) A) v mi what) i' l) : cI w d X_X12_sees [vR (some 99), vI v, vI mi, vI what] i l P := by
  obtain ⟨d, rfl, hd1⟩ := d_pos hd
  have h308 := hk.1.2.1
  have h313 := hk.1.2.2.2.2.2
  unfold mSees at hP
  refine e_X12_sees (s_X12_sees _ _ _ (by omega) ⟨h0, ⟨by omega, by omega⟩, fun _ => h1, fun _ _ => h2, fun q => ?_, fun q => ?_, fun q => ?_, fun q => ?_⟩)
  · have := hP i (scrM_rf i)
    rw [if_neg (by omega)] at this
    exact this
  · rw [if_pos (show _ ∧ _ ∧ _ from ⟨q.1, q.2.1, q.2.2.1⟩), if_neg q.2.2.2.1, if_neg q.2.2.2.2] at hP
    refine sp_X12_holds (by omega) hk hf hc ⟨by omega, by omega⟩ ⟨by omega, by omega⟩ (fun i' hi => ?_)
    have e : bI (¬ (bI (popI (mSeen i (inForce (i 101) A) v mi (-1) (-1)) ≤ fLimit (inForce (i 101) A) v (i 101 313) mi) = 0)) = hB i (inForce (i 101) A) v mi := by
      unfold hB
      by_cases z : popI (mSeen i (inForce (i 101) A) v mi (-1) (-1)) ≤ fLimit (inForce (i 101) A) v (i 101 313) mi
      · rw [bI_t z]; rfl
      · rw [bI_f z]; rfl
    rw [e]
    exact hP i' hi
  · rw [if_pos (show _ ∧ _ ∧ _ from ⟨q.1, q.2.1, q.2.2.1⟩), if_neg q.2.2.2.1, if_pos q.2.2.2.2] at hP
    exact sp_X12_limitOf (by omega) hf hc ⟨by omega, by omega⟩ ⟨by omega, by omega⟩ ⟨by omega, by omega⟩ hP
  · rw [if_pos (show _ ∧ _ ∧ _ from ⟨q.1, q.2.1, q.2.2.1⟩), if_pos q.2.2.2] at hP
    exact sp_X12_seen (by omega) hk hf hc ⟨by omega, by omega⟩ ⟨by omega, by omega⟩ (rg_lit rfl) ⟨by omega, by omega⟩ hP
theorem lp_bad {P : Int → IM → LM → Prop} {i : IM} {A : Nat → List Cla} (hd : 80 ≤ d) (hk : kOK (i 101)) (hf : forceM (i 101) A) (hc : hasDep (inForce (i 101) A)) {v : Int} (h0 : 0 ≤ v ∧ v < 8) (hP : ∀ i', scrM i i' → P (sumGo (fun m => bI (hB i (inForce (i 101) A) v (m : Int) = 0)) 120) i' l) : ∀ m n : Nat, n + m = 120 → ∀ i', scrM i i' → gI w d X_X12_bad P i' l 14 [(0, vR (some 99)), (1, vI v), (2, vI (sumGo (fun m => bI (hB i (inForce (i 101) A) v (m : Int) = 0)) n)), (3, vI (n : Int))] [] := by
  intro m
  induction m with
  | zero =>
    intro n hn i' hi
    have e : n = 120 := by omega
    subst e
    have hb := sumGo_le (g := fun m => bI (hB i (inForce (i 101) A) v (m : Int) = 0)) (b := 1) 120 (fun k _ => bI_le _)
    exact s_X12_bad_14 _ _ _ ⟨rg_lit rfl, fun _ => ⟨⟨by omega, by omega⟩, hP i' hi⟩, fun q => absurd (by decide) q⟩
  | succ m ih =>
    intro n hn i' hi
    have e1 : i' 101 = i 101 := scrM_c hi (by decide) (by decide)
    refine s_X12_bad_14 _ _ _ ⟨⟨by omega, by omega⟩, fun q => absurd q (by omega), fun _ => ?_⟩
    refine sp_X12_holds hd (by rw [e1]; exact hk) (A := A) (by rw [e1]; exact hf) (by rw [e1]; exact hc) h0 ⟨by omega, by omega⟩ (fun i2 hi2 => ?_)
    have e2 : bI (popI (mSeen i' (inForce (i' 101) A) v (n : Int) (-1) (-1)) ≤ fLimit (inForce (i' 101) A) v (i' 101 313) (n : Int)) = hB i (inForce (i 101) A) v (n : Int) := by
      rw [← hB_scr hi]
      unfold hB
      rw [e1]
    rw [e2]
    exact ih (n + 1) (by omega) i2 (scrM_tr hi hi2)
theorem sp_X12_bad {P : Int → IM → LM → Prop} {i : IM} {A : Nat → List Cla} (hd : 82 ≤ d) (hk : kOK (i 101)) (hf : forceM (i 101) A) (hc : hasDep (inForce (i 101) A)) {v : Int} (h0 : rg v) (hP : ∀ i', scrM i i' → P (mBad i (inForce (i 101) A) v) i' l) : cI w d X_X12_bad [vR (some 99), vI v] i l P := by
  obtain ⟨d, rfl, hd1⟩ := d_pos hd
  have h308 := hk.1.2.1
  unfold mBad at hP
  refine e_X12_bad (s_X12_bad _ (by omega) ⟨h0, ⟨by omega, by omega⟩, fun q => ?_, fun q => ?_⟩)
  · rw [if_pos q] at hP
    exact lp_bad (by omega) hk hf hc ⟨by omega, by omega⟩ hP 120 0 rfl i (scrM_rf i)
  · have := hP i (scrM_rf i)
    rw [if_neg q] at this
    exact this
end
