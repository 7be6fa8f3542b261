section
variable {w : Wd} {d : Nat} {i : IM} {l : LM}
theorem sp_X12_lies (hd : 1 ≤ d) {a b c : Int} (ha : rg a) (hb : rg b) (hc : rg c) : cI w d X_X12_lies [vI a, vI b, vI c] i l (fun x i' l' => x = bI (b ≤ a ∧ a ≤ c) ∧ i' = i ∧ l' = l) := by
  obtain ⟨d, rfl, hd1⟩ := d_pos hd
  exact e_X12_lies (s_X12_lies a b c ⟨ha, hb, fun _ => hc, bI_congr (by omega), rfl, rfl⟩)
theorem sp_X12_isIn (hd : 1 ≤ d) {a b : Int} : cI w d X_X12_isIn [vI a, vI b] i l (fun x i' l' => x = bI (iand (ishr a b) 1 = 1) ∧ i' = i ∧ l' = l) := by
  obtain ⟨d, rfl, hd1⟩ := d_pos hd
  exact e_X12_isIn (s_X12_isIn a b ⟨rfl, rfl, rfl⟩)
theorem lp_X12_ones {P : Int → IM → LM → Prop} {a : Nat} (ha : a < 2147483648) (hP : P (cntB a 16 : Nat) i l) : ∀ m k : Nat, k + m = 16 → gI w d X_X12_ones P i l 4 [(0, vI a), (1, vI (cntB a k : Nat)), (2, vI k)] [] := by
  intro m
  induction m with
  | zero =>
    intro k hk
    have e : k = 16 := by omega
    subst e
    have h1 := cntB_le a 16
    exact s_X12_ones_4 _ _ _ ⟨⟨by omega, by omega⟩, fun _ => ⟨⟨by omega, by omega⟩, hP⟩, fun h => absurd (by omega) h⟩
  | succ m ih =>
    intro k hk
    refine s_X12_ones_4 _ _ _ ⟨⟨by omega, by omega⟩, fun h => absurd h (by omega), fun _ => ?_⟩
    have h := ih (k + 1) (by omega)
    rw [ibit_nat ha (by omega)]
    exact h
theorem sp_X12_ones (hd : 1 ≤ d) {x : Int} (h : 0 ≤ x ∧ x < 2147483648) : cI w d X_X12_ones [vI x] i l (fun y i' l' => y = popI x ∧ i' = i ∧ l' = l) := by
  obtain ⟨d, rfl, hd1⟩ := d_pos hd
  obtain ⟨a, rfl⟩ := Int.eq_ofNat_of_zero_le h.1
  exact e_X12_ones (s_X12_ones _ (lp_X12_ones (by omega) ⟨rfl, rfl, rfl⟩ 16 0 rfl))
theorem sp_X12_lesser (hd : 1 ≤ d) {a b : Int} (ha : rg a) (hb : rg b) : cI w d X_X12_lesser [vI a, vI b] i l (fun x i' l' => x = min a b ∧ i' = i ∧ l' = l) := by
  obtain ⟨d, rfl, hd1⟩ := d_pos hd
  refine e_X12_lesser (s_X12_lesser a b ⟨ha, hb, ?_, rfl, rfl⟩)
  by_cases h : b ≤ a
  · rw [if_pos h]; omega
  · rw [if_neg h]; omega
/-- the most that a THING's trait may be -/
def mostI (x : Int) : Int := if x = 0 then 3 else if x < 3 then 7 else if x < 5 then 99 else 1
theorem sp_X12_mostOf (hd : 1 ≤ d) {a : Int} (ha : rg a) : cI w d X_X12_mostOf [vI a] i l (fun x i' l' => x = mostI a ∧ i' = i ∧ l' = l) := by
  obtain ⟨d, rfl, hd1⟩ := d_pos hd
  refine e_X12_mostOf (s_X12_mostOf a ⟨ha, ?_, rfl, rfl⟩)
  unfold mostI
  by_cases h0 : a = 0
  · simp [h0]
  · by_cases h3 : 3 ≤ a
    · by_cases h5 : 5 ≤ a
      · simp [h0, h3, h5, show ¬ a < 3 by omega, show ¬ a < 5 by omega]
      · simp [h0, h3, h5, show ¬ a < 3 by omega, show a < 5 by omega]
    · simp [h0, h3, show a < 3 by omega]
theorem sp_X12_isSmall (hd : 1 ≤ d) {a : Int} (ha : rg a) : cI w d X_X12_isSmall [vI a] i l (fun x i' l' => x = bI (97 ≤ a ∧ a ≤ 122) ∧ i' = i ∧ l' = l) := by
  obtain ⟨d, rfl, hd1⟩ := d_pos hd
  exact e_X12_isSmall (s_X12_isSmall a ⟨ha, bI_congr (by omega), rfl, rfl⟩)
theorem sp_X12_isDigit (hd : 1 ≤ d) {a : Int} (ha : rg a) : cI w d X_X12_isDigit [vI a] i l (fun x i' l' => x = bI (48 ≤ a ∧ a ≤ 57) ∧ i' = i ∧ l' = l) := by
  obtain ⟨d, rfl, hd1⟩ := d_pos hd
  exact e_X12_isDigit (s_X12_isDigit a ⟨ha, bI_congr (by omega), rfl, rfl⟩)
theorem sp_X12_sign (hd : 1 ≤ d) {a : Int} (ha : rg (100 + a)) : cI w d X_X12_sign [vI a] i l (fun x i' l' => x = 100 + a ∧ i' = i ∧ l' = l) := by
  obtain ⟨d, rfl, hd1⟩ := d_pos hd
  exact e_X12_sign (s_X12_sign a ⟨ha, rfl, rfl, rfl⟩)
theorem sp_X11_upTo (hd : 1 ≤ d) {a b : Int} (ha : rg a) (hb : rg b) : cI w d X_X11_upTo [vI a, vI b] i l (fun x i' l' => x = bI (0 ≤ a ∧ a ≤ b) ∧ i' = i ∧ l' = l) := by
  obtain ⟨d, rfl, hd1⟩ := d_pos hd
  exact e_X11_upTo (s_X11_upTo a b ⟨ha, fun _ => hb, bI_congr (by omega), rfl, rfl⟩)
theorem sp_X11_below (hd : 1 ≤ d) {a b : Int} (ha : rg a) (hb : rg b) : cI w d X_X11_below [vI a, vI b] i l (fun x i' l' => x = bI (0 ≤ a ∧ a < b) ∧ i' = i ∧ l' = l) := by
  obtain ⟨d, rfl, hd1⟩ := d_pos hd
  exact e_X11_below (s_X11_below a b ⟨ha, fun _ => hb, bI_congr (by omega), rfl, rfl⟩)
theorem sp_X11_areMonths (hd : 1 ≤ d) {a : Int} (ha : rg a) : cI w d X_X11_areMonths [vI a] i l (fun x i' l' => x = bI (1 ≤ a ∧ a ≤ 4095) ∧ i' = i ∧ l' = l) := by
  obtain ⟨d, rfl, hd1⟩ := d_pos hd
  exact e_X11_areMonths (s_X11_areMonths a ⟨ha, bI_congr (by omega), rfl, rfl⟩)
theorem sp_max (hd : 1 ≤ d) {a b : Int} (ha : rg a) (hb : rg b) : cI w d X_J9_max_7cf53 [vI a, vI b] i l (fun x i' l' => x = max a b ∧ i' = i ∧ l' = l) := by
  obtain ⟨d, rfl, hd1⟩ := d_pos hd
  refine e_J9_max_7cf53 (s_J9_max_7cf53 a b ⟨ha, hb, ?_, rfl, rfl⟩)
  by_cases h : a < b
  · rw [if_pos h]; omega
  · rw [if_neg h]; omega
theorem sp_min (hd : 1 ≤ d) {a b : Int} (ha : rg a) (hb : rg b) : cI w d X_J9_min_7cf53 [vI a, vI b] i l (fun x i' l' => x = min a b ∧ i' = i ∧ l' = l) := by
  obtain ⟨d, rfl, hd1⟩ := d_pos hd
  refine e_J9_min_7cf53 (s_J9_min_7cf53 a b ⟨ha, hb, ?_, rfl, rfl⟩)
  by_cases h : b < a
  · rw [if_pos h]; omega
  · rw [if_neg h]; omega
theorem sp_X7_isLetter (hd : 1 ≤ d) {a : Int} (ha : rg a) : cI w d X_X7_isLetter [vI a] i l (fun x i' l' => x = bI (97 ≤ a ∧ a ≤ 122) ∧ i' = i ∧ l' = l) := by
  obtain ⟨d, rfl, hd1⟩ := d_pos hd
  exact e_X7_isLetter (s_X7_isLetter a ⟨ha, bI_congr (by omega), rfl, rfl⟩)
theorem sp_X7_isDigit (hd : 1 ≤ d) {a : Int} (ha : rg a) : cI w d X_X7_isDigit [vI a] i l (fun x i' l' => x = bI (48 ≤ a ∧ a ≤ 57) ∧ i' = i ∧ l' = l) := by
  obtain ⟨d, rfl, hd1⟩ := d_pos hd
  exact e_X7_isDigit (s_X7_isDigit a ⟨ha, bI_congr (by omega), rfl, rfl⟩)
end
