/-! which two colours should count as one -/
section
variable {w : Wd} {d : Nat} {i : IM} {l : LM}
def mg (s lo hi : Nat) : Nat := if s / 2 ^ hi % 2 = 1 then (s &&& (65535 - 2 ^ hi)) ||| 2 ^ lo else s
def mgB (s lo hi : Nat) : Bool := (cntB (mg s lo hi) 16 + (if s / 2 ^ lo % 2 + s / 2 ^ hi % 2 = 2 then 1 else 0) == cntB s 16) && decide (mg s lo hi < 256)
theorem mg_all : (List.range 256).all (fun s => (List.range 8).all (fun lo => (List.range 8).all (fun hi => !decide (lo < hi) || mgB s lo hi))) = true := by decide +kernel
theorem mg_ok {s lo hi : Nat} (hs : s < 256) (h1 : lo < hi) (h2 : hi < 8) : cntB (mg s lo hi) 16 + (if s / 2 ^ lo % 2 + s / 2 ^ hi % 2 = 2 then 1 else 0) = cntB s 16 ∧ mg s lo hi < 256 := by
  have h := mg_all
  rw [List.all_eq_true] at h
  have h3 := h s (List.mem_range.mpr hs)
  rw [List.all_eq_true] at h3
  have h4 := h3 lo (List.mem_range.mpr (by omega))
  rw [List.all_eq_true] at h4
  have h5 := h4 hi (List.mem_range.mpr h2)
  simp only [h1, decide_true, Bool.not_true, Bool.false_or] at h5
  unfold mgB at h5
  rw [Bool.and_eq_true] at h5
  exact ⟨by simpa using h5.1, by simpa using h5.2⟩
end
