section
variable {w : Wd} {d : Nat} {i : IM} {l : LM}
theorem sp_length (hd : 2 ≤ d) : cI w d X_J0_length_8abf5 [vR (some 3)] i l (fun x i' l' => x = 93 ∧ i' = i ∧ l' = l) := by
  obtain ⟨d, rfl, hd1⟩ := d_pos hd
  exact e_J0_length_8abf5 (s_J0_length_8abf5 hd1 ⟨by decide +kernel, rfl, rfl⟩)
theorem sp_charAt (hd : 4 ≤ d) {j : Int} (h : 0 ≤ j ∧ j < 93) : cI w d X_J0_charAt_5068e [vR (some 3), vI j] i l (fun x i' l' => x = hW j ∧ i' = i ∧ l' = l) := by
  obtain ⟨d, rfl, hd1⟩ := d_pos hd
  refine e_J0_charAt_5068e (s_J0_charAt_5068e _ (by omega) (CI_mono (sp_charAt1 hd1 h) (fun x i' l' hx q => ?_)))
  obtain ⟨rfl, rfl, rfl⟩ := q
  obtain ⟨k, rfl⟩ := Int.eq_ofNat_of_zero_le h.1
  obtain ⟨e1, e2⟩ := hW_nar k (by omega)
  exact ⟨e2, rfl, rfl, rfl⟩
end
