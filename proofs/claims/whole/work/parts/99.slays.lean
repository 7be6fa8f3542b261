/-! the model lays out WINDOWS and MONTHS -/
section
variable {w : Wd} {d : Nat} {l : LM}
abbrev inMo (months : Int) (m : Nat) : Prop := iand (ishr months (m : Int)) 1 = 1
/-- bits that are laid: those before (v, m, x, c) -/
def lyX (i i' : IM) (cs : List Cla) (months : Int) (v m x c : Nat) : Prop := ∀ v' m' x' c' : Nat, (v' : Int) < i 101 308 → m' < 12 → inMo months m' → (x' : Int) < i 101 307 → c' < 3 → (v' < v ∨ (v' = v ∧ (m' < m ∨ (m' = m ∧ (x' < x ∨ (x' = x ∧ c' < c)))))) → i' 111 (((96 * (x' : Int) + (12 * (v' : Int) + (m' : Int))) * 3) + (c' : Int)) = if mMay i (x' : Int) (c' : Int) = true then mBit i cs (v' : Int) (x' : Int) (mColour i (x' : Int) (c' : Int)) (m' : Int) 0 else 0
def lyY (i i' : IM) (cs : List Cla) (months : Int) (v m : Nat) : Prop := ∀ v' m' : Nat, (v' : Int) < i 101 308 → m' < 12 → inMo months m' → (v' < v ∨ (v' = v ∧ m' < m)) → i' 112 (12 * (v' : Int) + (m' : Int)) = fLimit cs (v' : Int) (m' : Int) 0 ∧ i' 113 (12 * (v' : Int) + (m' : Int)) = 0
/-- all that is laid so far -/
def lyZ (i i' : IM) (cs : List Cla) (months : Int) (v m m2 x c : Nat) : Prop := lyf i i' ∧ lyC i i' cs (i 101 307).toNat 0 ∧ lyX i i' cs months v m x c ∧ lyY i i' cs months v m2
theorem lp_lays161 {P : IM → LM → Prop} (hd : 78 ≤ d) {i : IM} {A : Nat → List Cla} (hk : kOK (i 101)) (hf : forceM (i 101) A) (hc : hasDep (inForce (i 101) A)) {months : Int} {v m x : Nat} (hv : (v : Int) < i 101 308) (hm : m < 12) (hx : (x : Int) < i 101 307) (hnext : ∀ i', lyZ i i' (inForce (i 101) A) months v m (m + 1) (x + 1) 0 → gV w d X_X12_lays P i' l 149 [(0, vR (some 99)), (1, vI months), (2, vI (v : Int)), (3, vI (m : Int)), (4, vI (12 * (v : Int) + (m : Int))), (5, vI ((x : Int) + 1))] []) : ∀ r k : Nat, k + r = 3 → ∀ i', lyZ i i' (inForce (i 101) A) months v m (m + 1) x k → gV w d X_X12_lays P i' l 161 [(0, vR (some 99)), (1, vI months), (2, vI (v : Int)), (3, vI (m : Int)), (4, vI (12 * (v : Int) + (m : Int))), (5, vI (x : Int)), (6, vI (k : Int))] [] := by
  have h307 := hk.1.1
  have h308 := hk.1.2.1
  intro r
  induction r with
  | zero =>
    intro k hk2 i' hi
    have e : k = 3 := by omega
    subst e
    refine s_X12_lays_161 _ _ _ _ _ _ (by omega) ⟨⟨by omega, by omega⟩, fun z => by omega, fun _ => hnext i' ⟨hi.1, hi.2.1, fun v' m' x' c' a1 a2 a3 a4 a5 a6 => hi.2.2.1 v' m' x' c' a1 a2 a3 a4 a5 (by omega), hi.2.2.2⟩, fun z => by omega, fun z => by omega⟩
  | succ r ih =>
    intro k hk2 i' hi
    have hk3 : k < 3 := by omega
    obtain ⟨a1, a2, a3, a4⟩ := hi
    have e1 := lyf_101 a1
    have h115 := (a2 x k (Or.inl ⟨by omega, hk3⟩)).1
    have htr := hk.2.1 (x : Int) (by omega) (by omega)
    have h313 : True := trivial
    have put : ∀ (J : IM) (y : Int), lyf i J → lyC i J (inForce (i 101) A) (i 101 307).toNat 0 → lyX i J (inForce (i 101) A) months v m x k → lyY i J (inForce (i 101) A) months v (m + 1) → y = (if mMay i (x : Int) (k : Int) = true then mBit i (inForce (i 101) A) (v : Int) (x : Int) (mColour i (x : Int) (k : Int)) (m : Int) 0 else 0) → lyZ i (u2 J 111 (((96 * (x : Int) + (12 * (v : Int) + (m : Int))) * 3) + (k : Int)) y) (inForce (i 101) A) months v m (m + 1) x (k + 1) := by
      intro J y b1 b2 b3 b4 hy
      refine ⟨lyf_tr b1 (lyf_u (by omega)), lyC_s (u2_other _ _ _ (by decide)) (u2_other _ _ _ (by decide)) b2, fun v' m' x' c' q1 q2 q3 q4 q5 q6 => ?_, fun v' m' q1 q2 q3 q4 => by rw [u2_other _ _ _ (by decide), u2_other _ _ _ (by decide)]; exact b4 v' m' q1 q2 q3 q4⟩
      by_cases e : v' = v ∧ m' = m ∧ x' = x ∧ c' = k
      · obtain ⟨e1, e2, e3, e4⟩ := e
        subst e1 e2 e3 e4
        rw [u2_self]; exact hy
      · have : u2 J 111 (((96 * (x : Int) + (12 * (v : Int) + (m : Int))) * 3) + (k : Int)) y 111 (((96 * (x' : Int) + (12 * (v' : Int) + (m' : Int))) * 3) + (c' : Int)) = J 111 (((96 * (x' : Int) + (12 * (v' : Int) + (m' : Int))) * 3) + (c' : Int)) := if_neg (fun z => e (by have := z.2; omega))
        rw [this]
        exact b3 v' m' x' c' q1 q2 q3 q4 q5 (by omega)
    refine s_X12_lays_161 _ _ _ _ _ _ (by omega) ⟨⟨by omega, by omega⟩, fun _ => ⟨by omega, by omega⟩, fun z => by omega, fun z => ⟨⟨by omega, by omega⟩, ?_⟩, fun z => ⟨⟨by omega, by omega⟩, ⟨by omega, by omega⟩, ?_⟩⟩
    · have z2 := z.2
      rw [h115, bI_eq] at z2
      exact ih (k + 1) (by omega) _ (put i' 0 a1 a2 a3 a4 (if_neg z2).symm)
    · have z2 := z.2
      rw [h115, bI_eq] at z2
      have hmay : mMay i (x : Int) (k : Int) = true := by simpa using z2
      have hcl := mColour_lt (i := i) hk (t := (x : Int)) (c := (k : Int)) ⟨by omega, by omega⟩
      have hsm : sameOK i' := by
        have := kOK_same hk
        unfold sameOK at this ⊢
        rw [e1]; exact this
      rw [mColour_K e1]
      refine sp_X12_bitOf (by omega) (A := A) (by rw [e1]; exact hf) (by rw [e1]; exact hc) hsm ⟨by omega, by omega⟩ ⟨by omega, by omega⟩ hcl ⟨by omega, by omega⟩ bd0 (by rw [e1]; exact ⟨by omega, by omega⟩) (by rw [e1]; exact htr.2.2.2.2.2.2.2) (fun i2 hi2 => ⟨⟨by omega, by omega⟩, ?_⟩)
      refine ih (k + 1) (by omega) _ (put i2 _ (lyf_tr a1 (lyf_s hi2)) (lyC_s (scrM_c hi2 (by decide) (by decide)) (scrM_c hi2 (by decide) (by decide)) a2) (fun v' m' x' c' q1 q2 q3 q4 q5 q6 => by rw [scrM_c hi2 (a := 111) (by decide) (by decide)]; exact a3 v' m' x' c' q1 q2 q3 q4 q5 q6) (fun v' m' q1 q2 q3 q4 => by rw [scrM_c hi2 (a := 112) (by decide) (by decide), scrM_c hi2 (a := 113) (by decide) (by decide)]; exact a4 v' m' q1 q2 q3 q4) ?_)
      rw [if_pos hmay, e1, mShows_K e1, mLow_K e1]
      rfl
theorem lp_lays149 {P : IM → LM → Prop} (hd : 78 ≤ d) {i : IM} {A : Nat → List Cla} (hk : kOK (i 101)) (hf : forceM (i 101) A) (hc : hasDep (inForce (i 101) A)) {months : Int} {v m : Nat} (hv : (v : Int) < i 101 308) (hm : m < 12) (hnext : ∀ i', lyZ i i' (inForce (i 101) A) months v (m + 1) (m + 1) 0 0 → gV w d X_X12_lays P i' l 99 [(0, vR (some 99)), (1, vI months), (2, vI (v : Int)), (3, vI ((m : Int) + 1))] []) : ∀ r x : Nat, x + r = (i 101 307).toNat → ∀ i', lyZ i i' (inForce (i 101) A) months v m (m + 1) x 0 → gV w d X_X12_lays P i' l 149 [(0, vR (some 99)), (1, vI months), (2, vI (v : Int)), (3, vI (m : Int)), (4, vI (12 * (v : Int) + (m : Int))), (5, vI (x : Int))] [] := by
  have h307 := hk.1.1
  intro r
  induction r with
  | zero =>
    intro x hx i' hi
    have e1 := lyf_101 hi.1
    refine s_X12_lays_149 _ _ _ _ _ (by omega) ⟨⟨by omega, by omega⟩, fun _ => hnext i' ⟨hi.1, hi.2.1, fun v' m' x' c' a1 a2 a3 a4 a5 a6 => hi.2.2.1 v' m' x' c' a1 a2 a3 a4 a5 (by omega), hi.2.2.2⟩, fun z => by rw [e1] at z; omega⟩
  | succ r ih =>
    intro x hx i' hi
    have e1 := lyf_101 hi.1
    refine s_X12_lays_149 _ _ _ _ _ (by omega) ⟨⟨by omega, by omega⟩, fun z => by rw [e1] at z; omega, fun z => ?_⟩
    exact lp_lays161 hd hk hf hc hv hm (by omega) (fun i2 hi2 => ih (x + 1) (by omega) i2 hi2) 3 0 rfl i' hi
theorem lp_lays99 {P : IM → LM → Prop} (hd : 78 ≤ d) {i : IM} {A : Nat → List Cla} (hk : kOK (i 101)) (hf : forceM (i 101) A) (hc : hasDep (inForce (i 101) A)) {months : Int} {v : Nat} (hv : (v : Int) < i 101 308) (hnext : ∀ i', lyZ i i' (inForce (i 101) A) months (v + 1) 0 0 0 0 → gV w d X_X12_lays P i' l 89 [(0, vR (some 99)), (1, vI months), (2, vI ((v : Int) + 1))] []) : ∀ r m : Nat, m + r = 12 → ∀ i', lyZ i i' (inForce (i 101) A) months v m m 0 0 → gV w d X_X12_lays P i' l 99 [(0, vR (some 99)), (1, vI months), (2, vI (v : Int)), (3, vI (m : Int))] [] := by
  have h307 := hk.1.1
  have h308 := hk.1.2.1
  intro r
  induction r with
  | zero =>
    intro m hm i' hi
    have e : m = 12 := by omega
    subst e
    exact s_X12_lays_99 _ _ _ (by omega) ⟨⟨by omega, by omega⟩, fun _ => hnext i' ⟨hi.1, hi.2.1, fun v' m' x' c' a1 a2 a3 a4 a5 a6 => hi.2.2.1 v' m' x' c' a1 a2 a3 a4 a5 (by omega), fun v' m' a1 a2 a3 a4 => hi.2.2.2 v' m' a1 a2 a3 (by omega)⟩, fun z => by omega, fun z => by omega⟩
  | succ r ih =>
    intro m hm i' hi
    have hm12 : m < 12 := by omega
    obtain ⟨a1, a2, a3, a4⟩ := hi
    have e1 := lyf_101 a1
    refine s_X12_lays_99 _ _ _ (by omega) ⟨⟨by omega, by omega⟩, fun z => by omega, fun z => ?_, fun z => ?_⟩
    · have hfl := fLimit_rg (inForce (i 101) A) (v : Int) (m : Int) 0
      refine sp_X12_limitOf (by omega) (A := A) (by rw [e1]; exact hf) (by rw [e1]; exact hc) ⟨by omega, by omega⟩ ⟨by omega, by omega⟩ bd0 (fun i2 hi2 => ⟨⟨by omega, by omega⟩, ⟨by omega, by omega⟩, ?_⟩)
      rw [e1]
      refine lp_lays149 hd hk hf hc hv hm12 (fun i3 hi3 => ih (m + 1) (by omega) i3 hi3) _ 0 (Nat.zero_add _) _ ⟨lyf_tr (lyf_tr (lyf_tr a1 (lyf_s hi2)) (lyf_u (by omega))) (lyf_u (by omega)), lyC_s (by rw [u2_other _ _ _ (by decide), u2_other _ _ _ (by decide)]; exact scrM_c hi2 (by decide) (by decide)) (by rw [u2_other _ _ _ (by decide), u2_other _ _ _ (by decide)]; exact scrM_c hi2 (by decide) (by decide)) a2, fun v' m' x' c' q1 q2 q3 q4 q5 q6 => ?_, fun v' m' q1 q2 q3 q4 => ?_⟩
      · rw [u2_other _ _ _ (by decide), u2_other _ _ _ (by decide), scrM_c hi2 (a := 111) (by decide) (by decide)]
        exact a3 v' m' x' c' q1 q2 q3 q4 q5 q6
      · by_cases e : v' = v ∧ m' = m
        · rw [e.1, e.2]
          refine ⟨?_, u2_self ..⟩
          rw [u2_other _ _ _ (by decide), u2_self]
        · have hne : ¬ (12 * (v' : Int) + (m' : Int) = 12 * (v : Int) + (m : Int)) := fun y => e ⟨by omega, by omega⟩
          have nE : ∀ (J : IM) (a : Nat) (y : Int), u2 J a (12 * (v : Int) + (m : Int)) y a (12 * (v' : Int) + (m' : Int)) = J a (12 * (v' : Int) + (m' : Int)) := fun J a y => if_neg (fun z => hne z.2)
          rw [u2_other _ _ _ (show (112 : Nat) ≠ 113 by decide), nE, nE, u2_other _ _ _ (show (113 : Nat) ≠ 112 by decide), scrM_c hi2 (a := 112) (by decide) (by decide), scrM_c hi2 (a := 113) (by decide) (by decide)]
          exact a4 v' m' q1 q2 q3 (by omega)
    · refine ih (m + 1) (by omega) i' ⟨a1, a2, fun v' m' x' c' q1 q2 q3 q4 q5 q6 => ?_, fun v' m' q1 q2 q3 q4 => ?_⟩
      · by_cases e : v' = v ∧ m' = m
        · rw [e.2] at q3; exact absurd q3 z.2
        · exact a3 v' m' x' c' q1 q2 q3 q4 q5 (by omega)
      · by_cases e : v' = v ∧ m' = m
        · rw [e.2] at q3; exact absurd q3 z.2
        · exact a4 v' m' q1 q2 q3 (by omega)
theorem lp_lays89 {P : IM → LM → Prop} (hd : 78 ≤ d) {i : IM} {A : Nat → List Cla} (hk : kOK (i 101)) (hf : forceM (i 101) A) (hc : hasDep (inForce (i 101) A)) {months : Int} (hP : ∀ i', lyZ i i' (inForce (i 101) A) months (i 101 308).toNat 0 0 0 0 → P i' l) : ∀ r v : Nat, v + r = (i 101 308).toNat → ∀ i', lyZ i i' (inForce (i 101) A) months v 0 0 0 0 → gV w d X_X12_lays P i' l 89 [(0, vR (some 99)), (1, vI months), (2, vI (v : Int))] [] := by
  have h308 := hk.1.2.1
  intro r
  induction r with
  | zero =>
    intro v hv i' hi
    have e : v = (i 101 308).toNat := by omega
    subst e
    have e1 := lyf_101 hi.1
    exact s_X12_lays_89 _ _ (by omega) ⟨⟨by omega, by omega⟩, fun _ => hP i' hi, fun z => by rw [e1] at z; omega⟩
  | succ r ih =>
    intro v hv i' hi
    have e1 := lyf_101 hi.1
    refine s_X12_lays_89 _ _ (by omega) ⟨⟨by omega, by omega⟩, fun z => by rw [e1] at z; omega, fun z => ?_⟩
    exact lp_lays99 hd hk hf hc (by omega) (fun i2 hi2 => ih (v + 1) (by omega) i2 hi2) 12 0 rfl i' hi
theorem lp_lays2 {P : IM → LM → Prop} (hd : 78 ≤ d) {i : IM} {A : Nat → List Cla} (hk : kOK (i 101)) (hf : forceM (i 101) A) (hc : hasDep (inForce (i 101) A)) {months : Int} (hP : ∀ i', lyZ i i' (inForce (i 101) A) months (i 101 308).toNat 0 0 0 0 → P i' l) : ∀ r t : Nat, t + r = (i 101 307).toNat → ∀ i', lyf i i' → lyC i i' (inForce (i 101) A) t 0 → gV w d X_X12_lays P i' l 2 [(0, vR (some 99)), (1, vI months), (2, vI (t : Int))] [] := by
  have h307 := hk.1.1
  intro r
  induction r with
  | zero =>
    intro t ht i' hi hc2
    have e : t = (i 101 307).toNat := by omega
    subst e
    have e1 := lyf_101 hi
    exact s_X12_lays_2 _ _ (by omega) ⟨⟨by omega, by omega⟩, fun _ => lp_lays89 hd hk hf hc hP _ 0 (Nat.zero_add _) i' ⟨hi, hc2, fun v' m' x' c' _ _ _ _ _ q6 => by omega, fun v' m' _ _ _ q4 => by omega⟩, fun z => by rw [e1] at z; omega⟩
  | succ r ih =>
    intro t ht i' hi hc2
    have e1 := lyf_101 hi
    refine s_X12_lays_2 _ _ (by omega) ⟨⟨by omega, by omega⟩, fun z => by rw [e1] at z; omega, fun z => ?_⟩
    exact lp_lays12 hd hk hf hc (by omega) (fun i2 hi2 hc3 => ih (t + 1) (by omega) i2 hi2 hc3) 3 0 rfl i' hi (fun x c hxc => hc2 x c (by omega))
theorem sp_X12_lays {P : IM → LM → Prop} (hd : 79 ≤ d) {i : IM} {A : Nat → List Cla} (hk : kOK (i 101)) (hf : forceM (i 101) A) (hc : hasDep (inForce (i 101) A)) {months : Int} (hP : ∀ i', lyZ i i' (inForce (i 101) A) months (i 101 308).toNat 0 0 0 0 → P i' l) : cVd w d X_X12_lays [vR (some 99), vI months] i l P := by
  obtain ⟨d, rfl, hd1⟩ := d_pos hd
  exact e_X12_lays (s_X12_lays _ (lp_lays2 hd1 hk hf hc hP _ 0 (Nat.zero_add _) i (lyf_rf i) (fun x c hxc => by omega)))
end
