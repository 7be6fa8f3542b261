def bcI (p0 : Int) : Int := iand (((iand (((iand (p0 - (iand (iushr p0 1) 1431655765)) 858993459) + (iand (iushr (p0 - (iand (iushr p0 1) 1431655765)) 2) 858993459)) + (iushr ((iand (p0 - (iand (iushr p0 1) 1431655765)) 858993459) + (iand (iushr (p0 - (iand (iushr p0 1) 1431655765)) 2) 858993459)) 4)) 252645135) + (iushr (iand (((iand (p0 - (iand (iushr p0 1) 1431655765)) 858993459) + (iand (iushr (p0 - (iand (iushr p0 1) 1431655765)) 2) 858993459)) + (iushr ((iand (p0 - (iand (iushr p0 1) 1431655765)) 858993459) + (iand (iushr (p0 - (iand (iushr p0 1) 1431655765)) 2) 858993459)) 4)) 252645135) 8)) + (iushr ((iand (((iand (p0 - (iand (iushr p0 1) 1431655765)) 858993459) + (iand (iushr (p0 - (iand (iushr p0 1) 1431655765)) 2) 858993459)) + (iushr ((iand (p0 - (iand (iushr p0 1) 1431655765)) 858993459) + (iand (iushr (p0 - (iand (iushr p0 1) 1431655765)) 2) 858993459)) 4)) 252645135) + (iushr (iand (((iand (p0 - (iand (iushr p0 1) 1431655765)) 858993459) + (iand (iushr (p0 - (iand (iushr p0 1) 1431655765)) 2) 858993459)) + (iushr ((iand (p0 - (iand (iushr p0 1) 1431655765)) 858993459) + (iand (iushr (p0 - (iand (iushr p0 1) 1431655765)) 2) 858993459)) 4)) 252645135) 8)) 16)) 63
set_option maxRecDepth 100000 in
theorem bc_all : ∀ n : Fin 1024, bcI (n.val : Int) = popI (n.val : Int) := by decide +kernel
section
variable {w : Wd} {d : Nat} {i : IM} {l : LM}
theorem sp_bitCount (hd : 1 ≤ d) {a : Int} (h : 0 ≤ a ∧ a < 1024) : cI w d X_J6_bitCount_0f7a4 [vI a] i l (fun x i' l' => x = popI a ∧ i' = i ∧ l' = l) := by
  obtain ⟨d, rfl, hd1⟩ := d_pos hd
  obtain ⟨n, rfl⟩ := Int.eq_ofNat_of_zero_le h.1
  exact e_J6_bitCount_0f7a4 (s_J6_bitCount_0f7a4 _ ⟨bc_all ⟨n, by omega⟩, rfl, rfl⟩)
theorem sp_X12_isColour (hd : 2 ≤ d) {a : Int} (ha : rg a) : cI w d X_X12_isColour [vI a] i l (fun x i' l' => x = bI (0 ≤ a ∧ a ≤ 7) ∧ i' = i ∧ l' = l) := by
  obtain ⟨d, rfl, hd1⟩ := d_pos hd
  exact e_X12_isColour (s_X12_isColour a hd1 ⟨ha, rfl, rfl, rfl⟩)
theorem sp_X12_isMinute (hd : 2 ≤ d) {a : Int} (ha : rg a) : cI w d X_X12_isMinute [vI a] i l (fun x i' l' => x = bI (0 ≤ a ∧ a ≤ 119) ∧ i' = i ∧ l' = l) := by
  obtain ⟨d, rfl, hd1⟩ := d_pos hd
  exact e_X12_isMinute (s_X12_isMinute a hd1 ⟨ha, rfl, rfl, rfl⟩)
theorem sp_X12_isPlace (hd : 2 ≤ d) {a : Int} (ha : rg a) : cI w d X_X12_isPlace [vI a] i l (fun x i' l' => x = bI (0 ≤ a ∧ a ≤ 9) ∧ i' = i ∧ l' = l) := by
  obtain ⟨d, rfl, hd1⟩ := d_pos hd
  exact e_X12_isPlace (s_X12_isPlace a hd1 ⟨ha, rfl, rfl, rfl⟩)
theorem sp_X12_areMonths (hd : 2 ≤ d) {a : Int} (ha : rg a) : cI w d X_X12_areMonths [vI a] i l (fun x i' l' => x = bI (1 ≤ a ∧ a ≤ 4095) ∧ i' = i ∧ l' = l) := by
  obtain ⟨d, rfl, hd1⟩ := d_pos hd
  exact e_X12_areMonths (s_X12_areMonths a hd1 ⟨ha, rfl, rfl, rfl⟩)
theorem sp_X12_things (hd : 1 ≤ d) : cI w d X_X12_things [vR (some 99)] i l (fun x i' l' => x = i 101 307 ∧ i' = i ∧ l' = l) := by
  obtain ⟨d, rfl, hd1⟩ := d_pos hd
  exact e_X12_things (s_X12_things ⟨rfl, rfl, rfl⟩)
theorem sp_X12_windows (hd : 1 ≤ d) : cI w d X_X12_windows [vR (some 99)] i l (fun x i' l' => x = i 101 308 ∧ i' = i ∧ l' = l) := by
  obtain ⟨d, rfl, hd1⟩ := d_pos hd
  exact e_X12_windows (s_X12_windows ⟨rfl, rfl, rfl⟩)
theorem sp_X12_people (hd : 1 ≤ d) : cI w d X_X12_people [vR (some 99)] i l (fun x i' l' => x = i 101 309 ∧ i' = i ∧ l' = l) := by
  obtain ⟨d, rfl, hd1⟩ := d_pos hd
  exact e_X12_people (s_X12_people ⟨rfl, rfl, rfl⟩)
theorem ix_eq (i : IM) (a : Nat) {x y : Int} (h : x = y) : i a x = i a y := by rw [h]
theorem sp_X12_thingOf (hd : 1 ≤ d) {a b : Int} (h : 0 ≤ 8 * a + b ∧ 8 * a + b < 5120) : cI w d X_X12_thingOf [vR (some 99), vI a, vI b] i l (fun x i' l' => x = i 101 (8 * a + b) ∧ i' = i ∧ l' = l) := by
  obtain ⟨d, rfl, hd1⟩ := d_pos hd
  exact e_X12_thingOf (s_X12_thingOf a b ⟨⟨by omega, by omega⟩, ix_eq i 101 (by omega), rfl, rfl⟩)
theorem sp_X12_windowOf (hd : 1 ≤ d) {a b : Int} (h : 0 ≤ 80 + 3 * a + b ∧ 80 + 3 * a + b < 5120) : cI w d X_X12_windowOf [vR (some 99), vI a, vI b] i l (fun x i' l' => x = i 101 (80 + 3 * a + b) ∧ i' = i ∧ l' = l) := by
  obtain ⟨d, rfl, hd1⟩ := d_pos hd
  exact e_X12_windowOf (s_X12_windowOf a b ⟨h, rfl, rfl, rfl⟩)
theorem sp_X12_fine (hd : 1 ≤ d) : cI w d X_X12_fine [vR (some 99)] i l (fun x i' l' => x = bI (i 99 18 = -1) ∧ i' = i ∧ l' = l) := by
  obtain ⟨d, rfl, hd1⟩ := d_pos hd
  exact e_X12_fine (s_X12_fine ⟨rfl, rfl, rfl⟩)
theorem sp_X12_codeAt (hd : 1 ≤ d) {a : Int} (ha : rg a) (h : a < i 99 20 → 0 ≤ 320 + a ∧ 320 + a < 5120) : cI w d X_X12_codeAt [vR (some 99), vI a] i l (fun x i' l' => x = (if a < i 99 20 then i 101 (320 + a) else 0) ∧ i' = i ∧ l' = l) := by
  obtain ⟨d, rfl, hd1⟩ := d_pos hd
  refine e_X12_codeAt (s_X12_codeAt a ⟨ha, fun q => h (by omega), ?_, rfl, rfl⟩)
  by_cases q : a < i 99 20
  · rw [if_pos q, if_neg (by omega)]
  · rw [if_neg q, if_pos (by omega)]
theorem sp_X9_trait (hd : 1 ≤ d) {a b : Int} (h : 0 ≤ a * 8 + b ∧ a * 8 + b < 80) : cI w d X_X9_trait [vR (some 7), vI a, vI b] i l (fun x i' l' => x = i 8 (a * 8 + b) ∧ i' = i ∧ l' = l) := by
  obtain ⟨d, rfl, hd1⟩ := d_pos hd
  exact e_X9_trait (s_X9_trait a b ⟨h, rfl, rfl, rfl⟩)
theorem sp_X9_view (hd : 1 ≤ d) {a b : Int} (h : 0 ≤ a * 3 + b ∧ a * 3 + b < 24) : cI w d X_X9_view [vR (some 7), vI a, vI b] i l (fun x i' l' => x = i 9 (a * 3 + b) ∧ i' = i ∧ l' = l) := by
  obtain ⟨d, rfl, hd1⟩ := d_pos hd
  exact e_X9_view (s_X9_view a b ⟨h, rfl, rfl, rfl⟩)
theorem sp_X1_hue (hd : 1 ≤ d) {a b : Int} (h : 0 ≤ a * 3 + b ∧ a * 3 + b < 30) : cI w d X_X1_hue [vR (some 51), vI a, vI b] i l (fun x i' l' => x = i 59 (a * 3 + b) ∧ i' = i ∧ l' = l) := by
  obtain ⟨d, rfl, hd1⟩ := d_pos hd
  exact e_X1_hue (s_X1_hue a b ⟨h, rfl, rfl, rfl⟩)
theorem sp_X11_nearestTo (hd : 2 ≤ d) {a b : Int} (ha : rg a) (hb : rg b) : cI w d X_X11_nearestTo [vI a, vI b] i l (fun x i' l' => x = max 0 (min b a) ∧ i' = i ∧ l' = l) := by
  obtain ⟨d, rfl, hd1⟩ := d_pos hd
  exact e_X11_nearestTo (s_X11_nearestTo a b hd1 ⟨hb, ha, rfl, rfl, rfl⟩)
end
